/-! the steps, one by one -/
section ZSteps
variable {Y : List (Nat × Nat)} {own : String} {cc : ByteArray} {nL : Nat} {p : Program} {l : Launch} {e : Env} {R : Room} {s : State} {m : MethodId} {args : Array Value} {below : List Frame} {meth : Method} {c : Code} {cells slots : Nat} {Q : State → Prop} {D : va_G} {tys : List (ClassId × FieldType)} {ad : Nat → Nat} {dA : Nat → ClassId} {A : Nat → Prop} {pc n pc' : Nat} {lo lo' : ZL} {st st' : List AV} {M M' : AM}
theorem zs_push {v : AV} (row : ∀ (H : Heap) (locs : List Loc) (ls : Array Slot) (rest : List Value), W p l e R s m args below meth c H locs cells slots Q (F0 m n ls (cv ad v :: rest)) → W p l e R s m args below meth c H locs cells slots Q (F0 m pc ls rest)) (hv : gd Y v) (k : ZS Y nL p l e R s m args below meth c cells slots Q D ad dA A n lo (v :: st) M) : ZS Y nL p l e R s m args below meth c cells slots Q D ad dA A pc lo st M :=
  fun H locs ls hW hL hG => row H locs ls _ (k H locs ls hW hL (fun w hw => (List.mem_cons.mp hw).elim (fun e => e ▸ hv) (hG w)))
theorem zs_bin {f : Int → Int → Int} {F : Int32 → Int32 → Int32} (hf : ∀ x y, f x y = (F (Int32.ofInt x) (Int32.ofInt y)).toInt)
    (row : ∀ (H : Heap) (locs : List Loc) (ls : Array Slot) (rest : List Value) (x y : Int32), W p l e R s m args below meth c H locs cells slots Q (F0 m n ls (.int (F x y) :: rest)) → W p l e R s m args below meth c H locs cells slots Q (F0 m pc ls (.int y :: .int x :: rest)))
    (hs : z_bin n f lo st M = some (pc', lo', st', M')) (k : ZS Y nL p l e R s m args below meth c cells slots Q D ad dA A pc' lo' st' M') : ZS Y nL p l e R s m args below meth c cells slots Q D ad dA A pc lo st M := by
  unfold z_bin at hs
  split at hs
  · cases hs
    intro H locs ls hW hL hG
    refine row H locs ls _ _ _ ?_
    have h := k H locs ls hW hL (fun w hw => (List.mem_cons.mp hw).elim (fun e => by rw [e]; show g32 _; rw [hf]; exact g32_of _) (fun h => hG w (List.mem_cons_of_mem _ (List.mem_cons_of_mem _ h))))
    simpa only [List.map_cons, cv, vI, hf, Int32.ofInt_toInt] using h
  · cases hs
theorem zs_binL {f : Int → Int → Int} {F : Int64 → Int64 → Int64} (hf : ∀ x y, f x y = (F (Int64.ofInt x) (Int64.ofInt y)).toInt)
    (row : ∀ (H : Heap) (locs : List Loc) (ls : Array Slot) (rest : List Value) (x y : Int64), W p l e R s m args below meth c H locs cells slots Q (F0 m n ls (.long (F x y) :: rest)) → W p l e R s m args below meth c H locs cells slots Q (F0 m pc ls (.long y :: .long x :: rest)))
    (hs : z_binL n f lo st M = some (pc', lo', st', M')) (k : ZS Y nL p l e R s m args below meth c cells slots Q D ad dA A pc' lo' st' M') : ZS Y nL p l e R s m args below meth c cells slots Q D ad dA A pc lo st M := by
  unfold z_binL at hs
  split at hs
  · cases hs
    intro H locs ls hW hL hG
    refine row H locs ls _ _ _ ?_
    have h := k H locs ls hW hL (fun w hw => (List.mem_cons.mp hw).elim (fun e => by rw [e]; show g64 _; rw [hf]; exact g64_of _) (fun h => hG w (List.mem_cons_of_mem _ (List.mem_cons_of_mem _ h))))
    simpa only [List.map_cons, cv, vL, hf, Int64.ofInt_toInt] using h
  · cases hs
theorem ofInt32_ne {y : Int} (hg : g32 y) (h : y ≠ 0) : ¬ Int32.ofInt y = 0 := by
  intro e
  apply h
  have : (Int32.ofInt y).toInt = (0 : Int32).toInt := by rw [e]
  rw [hg] at this
  simpa using this
theorem ofInt64_ne {y : Int} (hg : g64 y) (h : y ≠ 0) : ¬ Int64.ofInt y = 0 := by
  intro e
  apply h
  have : (Int64.ofInt y).toInt = (0 : Int64).toInt := by rw [e]
  rw [hg] at this
  simpa using this
theorem zs_div {f : Int → Int → Int} {F : Int32 → Int32 → Int32} (hf : ∀ x y, f x y = (F (Int32.ofInt x) (Int32.ofInt y)).toInt)
    (row : ∀ (H : Heap) (locs : List Loc) (ls : Array Slot) (rest : List Value) (x y : Int32), ¬ y = 0 → W p l e R s m args below meth c H locs cells slots Q (F0 m n ls (.int (F x y) :: rest)) → W p l e R s m args below meth c H locs cells slots Q (F0 m pc ls (.int y :: .int x :: rest)))
    (hs : z_div n f lo st M = some (pc', lo', st', M')) (k : ZS Y nL p l e R s m args below meth c cells slots Q D ad dA A pc' lo' st' M') : ZS Y nL p l e R s m args below meth c cells slots Q D ad dA A pc lo st M := by
  unfold z_div at hs
  split at hs
  · split at hs
    · cases hs
      rename_i hne
      intro H locs ls hW hL hG
      refine row H locs ls _ _ _ (ofInt32_ne (hG _ List.mem_cons_self) hne) ?_
      have h := k H locs ls hW hL (fun w hw => (List.mem_cons.mp hw).elim (fun e => by rw [e]; show g32 _; rw [hf]; exact g32_of _) (fun h => hG w (List.mem_cons_of_mem _ (List.mem_cons_of_mem _ h))))
      simpa only [List.map_cons, cv, vI, hf, Int32.ofInt_toInt] using h
    · cases hs
  · cases hs
theorem zs_divL {f : Int → Int → Int} {F : Int64 → Int64 → Int64} (hf : ∀ x y, f x y = (F (Int64.ofInt x) (Int64.ofInt y)).toInt)
    (row : ∀ (H : Heap) (locs : List Loc) (ls : Array Slot) (rest : List Value) (x y : Int64), ¬ y = 0 → W p l e R s m args below meth c H locs cells slots Q (F0 m n ls (.long (F x y) :: rest)) → W p l e R s m args below meth c H locs cells slots Q (F0 m pc ls (.long y :: .long x :: rest)))
    (hs : z_divL n f lo st M = some (pc', lo', st', M')) (k : ZS Y nL p l e R s m args below meth c cells slots Q D ad dA A pc' lo' st' M') : ZS Y nL p l e R s m args below meth c cells slots Q D ad dA A pc lo st M := by
  unfold z_divL at hs
  split at hs
  · split at hs
    · cases hs
      rename_i hne
      intro H locs ls hW hL hG
      refine row H locs ls _ _ _ (ofInt64_ne (hG _ List.mem_cons_self) hne) ?_
      have h := k H locs ls hW hL (fun w hw => (List.mem_cons.mp hw).elim (fun e => by rw [e]; show g64 _; rw [hf]; exact g64_of _) (fun h => hG w (List.mem_cons_of_mem _ (List.mem_cons_of_mem _ h))))
      simpa only [List.map_cons, cv, vL, hf, Int64.ofInt_toInt] using h
    · cases hs
  · cases hs
theorem zs_un {f : Int → Int} {F : Int32 → Int32} (hf : ∀ x, f x = (F (Int32.ofInt x)).toInt)
    (row : ∀ (H : Heap) (locs : List Loc) (ls : Array Slot) (rest : List Value) (x : Int32), W p l e R s m args below meth c H locs cells slots Q (F0 m n ls (.int (F x) :: rest)) → W p l e R s m args below meth c H locs cells slots Q (F0 m pc ls (.int x :: rest)))
    (hs : z_un n f lo st M = some (pc', lo', st', M')) (k : ZS Y nL p l e R s m args below meth c cells slots Q D ad dA A pc' lo' st' M') : ZS Y nL p l e R s m args below meth c cells slots Q D ad dA A pc lo st M := by
  unfold z_un at hs
  split at hs
  · cases hs
    intro H locs ls hW hL hG
    refine row H locs ls _ _ ?_
    have h := k H locs ls hW hL (fun w hw => (List.mem_cons.mp hw).elim (fun e => by rw [e]; show g32 _; rw [hf]; exact g32_of _) (fun h => hG w (List.mem_cons_of_mem _ h)))
    simpa only [List.map_cons, cv, vI, hf, Int32.ofInt_toInt] using h
  · cases hs
theorem zs_iload {i : Nat} (row : ∀ (H : Heap) (locs : List Loc) (ls : Array Slot) (rest : List Value) (x : Int32), ls[i]? = some (.val (.int x)) → W p l e R s m args below meth c H locs cells slots Q (F0 m n ls (.int x :: rest)) → W p l e R s m args below meth c H locs cells slots Q (F0 m pc ls rest))
    (hs : z_iload n i lo st M = some (pc', lo', st', M')) (k : ZS Y nL p l e R s m args below meth c cells slots Q D ad dA A pc' lo' st' M') : ZS Y nL p l e R s m args below meth c cells slots Q D ad dA A pc lo st M := by
  unfold z_iload at hs
  split at hs
  · rename_i x hx
    cases hs
    intro H locs ls hW hL hG
    exact row H locs ls _ _ (hL.2.2 i _ hx).1 (k H locs ls hW hL (fun w hw => (List.mem_cons.mp hw).elim (fun e => by rw [e]; exact (hL.2.2 i _ hx).2) (hG w)))
  · cases hs
theorem zs_lload {i : Nat} (row : ∀ (H : Heap) (locs : List Loc) (ls : Array Slot) (rest : List Value) (x : Int64), ls[i]? = some (.val (.long x)) → W p l e R s m args below meth c H locs cells slots Q (F0 m n ls (.long x :: rest)) → W p l e R s m args below meth c H locs cells slots Q (F0 m pc ls rest))
    (hs : z_lload n i lo st M = some (pc', lo', st', M')) (k : ZS Y nL p l e R s m args below meth c cells slots Q D ad dA A pc' lo' st' M') : ZS Y nL p l e R s m args below meth c cells slots Q D ad dA A pc lo st M := by
  unfold z_lload at hs
  split at hs
  · rename_i x hx
    cases hs
    intro H locs ls hW hL hG
    exact row H locs ls _ _ (hL.2.2 i _ hx).1 (k H locs ls hW hL (fun w hw => (List.mem_cons.mp hw).elim (fun e => by rw [e]; exact (hL.2.2 i _ hx).2) (hG w)))
  · cases hs
theorem zs_aload {i : Nat} (row : ∀ (H : Heap) (locs : List Loc) (ls : Array Slot) (rest : List Value) (x : Nat), ls[i]? = some (.val (.ref x)) → W p l e R s m args below meth c H locs cells slots Q (F0 m n ls (.ref x :: rest)) → W p l e R s m args below meth c H locs cells slots Q (F0 m pc ls rest))
    (hs : z_aload n i lo st M = some (pc', lo', st', M')) (k : ZS Y nL p l e R s m args below meth c cells slots Q D ad dA A pc' lo' st' M') : ZS Y nL p l e R s m args below meth c cells slots Q D ad dA A pc lo st M := by
  unfold z_aload at hs
  split at hs
  · rename_i q kk ll hx
    cases hs
    intro H locs ls hW hL hG
    exact row H locs ls _ _ (hL.2.2 i _ hx).1 (k H locs ls hW hL (fun w hw => (List.mem_cons.mp hw).elim (fun e => by rw [e]; exact (hL.2.2 i _ hx).2) (hG w)))
  · cases hs
theorem zs_istore {i : Nat} (row : ∀ (H : Heap) (locs : List Loc) (ls : Array Slot) (rest : List Value) (x : Int32) (lv : List (Nat × Value)), lv_has ls nL lv → (∀ ls' : Array Slot, lv_has ls' nL ((i, Value.int x) :: lv.filter (fun q => !(q.1 == i) && !(q.1 + 1 == i && q.2.category == 2))) → W p l e R s m args below meth c H locs cells slots Q (F0 m n ls' rest)) → W p l e R s m args below meth c H locs cells slots Q (F0 m pc ls (.int x :: rest)))
    (hs : z_istore n i lo st M = some (pc', lo', st', M')) (k : ZS Y nL p l e R s m args below meth c cells slots Q D ad dA A pc' lo' st' M') : ZS Y nL p l e R s m args below meth c cells slots Q D ad dA A pc lo st M := by
  unfold z_istore at hs
  split at hs
  · split at hs
    · cases hs
    · rename_i hz
      cases hs
      intro H locs ls hW hL hG
      exact row H locs ls _ _ _ hL.has (fun ls' h' => k H locs ls' hW (hL.store1 (v := vI _) (hG _ List.mem_cons_self) hz h') (fun w hw => hG w (List.mem_cons_of_mem _ hw)))
  · cases hs
theorem zs_astore {i : Nat} (row : ∀ (H : Heap) (locs : List Loc) (ls : Array Slot) (rest : List Value) (x : Nat) (lv : List (Nat × Value)), lv_has ls nL lv → (∀ ls' : Array Slot, lv_has ls' nL ((i, Value.ref x) :: lv.filter (fun q => !(q.1 == i) && !(q.1 + 1 == i && q.2.category == 2))) → W p l e R s m args below meth c H locs cells slots Q (F0 m n ls' rest)) → W p l e R s m args below meth c H locs cells slots Q (F0 m pc ls (.ref x :: rest)))
    (hs : z_astore n i lo st M = some (pc', lo', st', M')) (k : ZS Y nL p l e R s m args below meth c cells slots Q D ad dA A pc' lo' st' M') : ZS Y nL p l e R s m args below meth c cells slots Q D ad dA A pc lo st M := by
  unfold z_astore at hs
  split at hs
  · split at hs
    · cases hs
    · rename_i hz
      cases hs
      intro H locs ls hW hL hG
      exact row H locs ls _ _ _ hL.has (fun ls' h' => k H locs ls' hW (hL.store1 (v := vR _ _ _) (hG _ List.mem_cons_self) hz h') (fun w hw => hG w (List.mem_cons_of_mem _ hw)))
  · cases hs
theorem zs_lstore {i : Nat} (row : ∀ (H : Heap) (locs : List Loc) (ls : Array Slot) (rest : List Value) (x : Int64) (lv : List (Nat × Value)), lv_has ls nL lv → (∀ ls' : Array Slot, lv_has ls' nL ((i, Value.long x) :: lv.filter (fun q => !(q.1 == i) && (!(q.1 == i + 1) && !(q.1 + 1 == i && q.2.category == 2)))) → W p l e R s m args below meth c H locs cells slots Q (F0 m n ls' rest)) → W p l e R s m args below meth c H locs cells slots Q (F0 m pc ls (.long x :: rest)))
    (hs : z_lstore n i lo st M = some (pc', lo', st', M')) (k : ZS Y nL p l e R s m args below meth c cells slots Q D ad dA A pc' lo' st' M') : ZS Y nL p l e R s m args below meth c cells slots Q D ad dA A pc lo st M := by
  unfold z_lstore at hs
  split at hs
  · split at hs
    · cases hs
    · rename_i hz
      cases hs
      intro H locs ls hW hL hG
      exact row H locs ls _ _ _ hL.has (fun ls' h' => k H locs ls' hW (hL.store2 (v := vL _) (hG _ List.mem_cons_self) hz h') (fun w hw => hG w (List.mem_cons_of_mem _ hw)))
  · cases hs
/-- an index within, as the machine sees it -/
theorem z_in {i : Int} {n : Nat} (hg : g32 i) (h : 0 ≤ i ∧ i < (n : Int)) : vp_in (Int32.ofInt i) n ∧ (Int32.ofInt i).toNatClampNeg = i.toNat := by
  have e : (Int32.ofInt i).toNatClampNeg = i.toNat := by
    rw [show (Int32.ofInt i).toNatClampNeg = (Int32.ofInt i).toInt.toNat from rfl, hg]
  refine ⟨?_, e⟩
  unfold vp_in
  rw [e]
  rintro (h1 | h1)
  · rw [Int32.lt_iff_toInt_lt, hg] at h1
    simp at h1
    omega
  · omega
theorem zw_arr {M : AM} {q k n : Nat} (h : Y[q]? = some (k, n)) (hk : k < 10) : (zw Y ad dA M)[q]? = some (ad q, .inl (dA q, zea k n ad q (M q))) := by
  rw [zw_at h]
  simp [ze, hk]
theorem zs_ald {kk : Nat} (hkk : kk = 0 ∨ kk = 2) (C : zC Y own cc nL p R s m args c D tys dA A)
    (row : ∀ (H : Heap) (locs : List Loc) (ls : Array Slot) (rest : List Value) (q t0 a n0 : Nat) (cA : ClassId) (f : Nat → Int32) (i : Int32), va_P D zcl (zw Y ad dA M) H → (zw Y ad dA M)[q]? = some (a, .inl (cA, n0, .inl f)) → tys[t0]? = some (cA, zet kk) → vp_in i n0 → W p l e R s m args below meth c H locs cells slots Q (F0 m n ls (.int (f i.toNatClampNeg) :: rest)) → W p l e R s m args below meth c H locs cells slots Q (F0 m pc ls (.int i :: .ref a :: rest)))
    (hs : z_ald n kk lo st M = some (pc', lo', st', M')) (k : ZS Y nL p l e R s m args below meth c cells slots Q D ad dA A pc' lo' st' M') : ZS Y nL p l e R s m args below meth c cells slots Q D ad dA A pc lo st M := by
  obtain ⟨hx, hb, hml, hown, hts, hK, hT, hA, hR⟩ := C
  unfold z_ald at hs
  split at hs
  · rename_i i q k0 l0 r
    split at hs
    · rename_i hk
      split at hs
      · rename_i hin
        cases hs
        have hk : k0 = kk := by simpa using hk
        subst hk
        intro H locs ls hW hL hG
        have hq : Y[q]? = some (k0, l0) := (hG (vR q k0 l0) (List.mem_cons_of_mem _ List.mem_cons_self)).resolve_left (by omega)
        have hi : g32 i := hG (vI i) List.mem_cons_self
        obtain ⟨t0, ht0⟩ := hT q k0 l0 hq (by omega)
        obtain ⟨h1, h2⟩ := z_in hi hin
        have ha := zw_arr (ad := ad) (dA := dA) (M := M) hq (by omega)
        have hz : zea k0 l0 ad q (M q) = (l0, .inl (fun j => Int32.ofInt (M q j))) := by rcases hkk with h | h <;> subst h <;> rfl
        rw [hz] at ha
        refine row H locs ls _ q t0 _ l0 _ _ _ hW.1 ha ht0 h1 ?_
        have hgm : g32 (M q i.toNat) := by
          have := hW.2.2.2 q k0 l0 hq i.toNat
          rcases hkk with h | h <;> subst h <;> simpa [zgj] using this
        have h := k H locs ls hW hL (fun w hw => (List.mem_cons.mp hw).elim (fun e => by rw [e]; exact hgm) (fun h => hG w (List.mem_cons_of_mem _ (List.mem_cons_of_mem _ h))))
        rw [h2]
        exact h
      · cases hs
    · cases hs
  · cases hs
theorem zs_lald (C : zC Y own cc nL p R s m args c D tys dA A)
    (row : ∀ (H : Heap) (locs : List Loc) (ls : Array Slot) (rest : List Value) (q t0 a n0 : Nat) (cA : ClassId) (f : Nat → Int64) (i : Int32), va_P D zcl (zw Y ad dA M) H → (zw Y ad dA M)[q]? = some (a, .inl (cA, n0, .inr (.inl f))) → tys[t0]? = some (cA, .long) → vp_in i n0 → W p l e R s m args below meth c H locs cells slots Q (F0 m n ls (.long (f i.toNatClampNeg) :: rest)) → W p l e R s m args below meth c H locs cells slots Q (F0 m pc ls (.int i :: .ref a :: rest)))
    (hs : z_lald n lo st M = some (pc', lo', st', M')) (k : ZS Y nL p l e R s m args below meth c cells slots Q D ad dA A pc' lo' st' M') : ZS Y nL p l e R s m args below meth c cells slots Q D ad dA A pc lo st M := by
  obtain ⟨hx, hb, hml, hown, hts, hK, hT, hA, hR⟩ := C
  unfold z_lald at hs
  split at hs
  · rename_i i q k0 l0 r
    split at hs
    · rename_i hk
      split at hs
      · rename_i hin
        cases hs
        have hk : k0 = 1 := by simpa using hk
        subst hk
        intro H locs ls hW hL hG
        have hq : Y[q]? = some (1, l0) := (hG (vR q 1 l0) (List.mem_cons_of_mem _ List.mem_cons_self)).resolve_left (by omega)
        have hi : g32 i := hG (vI i) List.mem_cons_self
        obtain ⟨t0, ht0⟩ := hT q 1 l0 hq (by omega)
        obtain ⟨h1, h2⟩ := z_in hi hin
        have ha := zw_arr (ad := ad) (dA := dA) (M := M) hq (by omega)
        refine row H locs ls _ q t0 _ l0 _ _ _ hW.1 ha ht0 h1 ?_
        have hgm : g64 (M q i.toNat) := by
          have := hW.2.2.2 q 1 l0 hq i.toNat
          simpa [zgj] using this
        have h := k H locs ls hW hL (fun w hw => (List.mem_cons.mp hw).elim (fun e => by rw [e]; exact hgm) (fun h => hG w (List.mem_cons_of_mem _ (List.mem_cons_of_mem _ h))))
        rw [h2]
        exact h
      · cases hs
    · cases hs
  · cases hs
theorem zReg_arr {q k n j : Nat} (hR : zReg Y) (hq : Y[q]? = some (k, n)) (h3 : 3 ≤ k) (h10 : k < 10) (hj : j < n) : Y[zro k q j]? = some (zrk k, 0) := by
  have h := hR q (k, n) hq
  have h3' : ¬ k < 3 := by omega
  simp only [zRb, h3', h10, if_false, if_true, List.all_eq_true, List.mem_range] at h
  simpa using h j hj
theorem zs_aald (C : zC Y own cc nL p R s m args c D tys dA A)
    (row : ∀ (H : Heap) (locs : List Loc) (ls : Array Slot) (rest : List Value) (q t0 a n0 : Nat) (cA : ClassId) (cn : String) (f : Nat → Option Nat) (i : Int32), va_P D zcl (zw Y ad dA M) H → (zw Y ad dA M)[q]? = some (a, .inl (cA, n0, .inr (.inr (.inr (.inr f))))) → tys[t0]? = some (cA, .object cn) → vp_in i n0 → W p l e R s m args below meth c H locs cells slots Q (F0 m n ls (va_rf (f i.toNatClampNeg) :: rest)) → W p l e R s m args below meth c H locs cells slots Q (F0 m pc ls (.int i :: .ref a :: rest)))
    (hs : z_aald n lo st M = some (pc', lo', st', M')) (k : ZS Y nL p l e R s m args below meth c cells slots Q D ad dA A pc' lo' st' M') : ZS Y nL p l e R s m args below meth c cells slots Q D ad dA A pc lo st M := by
  obtain ⟨hx, hb, hml, hown, hts, hK, hT, hA, hR⟩ := C
  unfold z_aald at hs
  split at hs
  · rename_i i q k0 l0 r
    split at hs
    · rename_i hk
      split at hs
      · rename_i hin
        cases hs
        have hk3 : 3 ≤ k0 := by
          simp only [Bool.and_eq_true] at hk
          exact Nat.le_of_ble_eq_true hk.1
        have hk6 : k0 < 6 := by
          simp only [Bool.and_eq_true] at hk
          exact Nat.le_of_ble_eq_true hk.2
        intro H locs ls hW hL hG
        have hq : Y[q]? = some (k0, l0) := (hG (vR q k0 l0) (List.mem_cons_of_mem _ List.mem_cons_self)).resolve_left (by omega)
        have hi : g32 i := hG (vI i) List.mem_cons_self
        obtain ⟨t0, ht0⟩ := hT q k0 l0 hq (by omega)
        obtain ⟨h1, h2⟩ := z_in hi hin
        have ha := zw_arr (ad := ad) (dA := dA) (M := M) hq (by omega)
        have hz : zea k0 l0 ad q (M q) = (l0, .inr (.inr (.inr (.inr (fun j => some (ad (zro k0 q j))))))) := by
          have e1 : ¬ k0 = 1 := by omega
          simp [zea, e1, hk3]
        rw [hz] at ha
        have hty : ∃ cn, zet k0 = .object cn := by
          have : k0 = 3 ∨ k0 = 4 ∨ k0 = 5 := by omega
          rcases this with h | h | h <;> subst h <;> exact ⟨_, rfl⟩
        obtain ⟨cn, hcn⟩ := hty
        rw [hcn] at ht0
        refine row H locs ls _ q t0 _ l0 _ cn _ _ hW.1 ha ht0 h1 ?_
        have h := k H locs ls hW hL (fun w hw => (List.mem_cons.mp hw).elim (fun e => by rw [e]; exact Or.inr (zReg_arr hR hq hk3 (by omega) (by omega))) (fun h => hG w (List.mem_cons_of_mem _ (List.mem_cons_of_mem _ h))))
        rw [h2]
        exact h
      · cases hs
    · cases hs
  · cases hs
end ZSteps
