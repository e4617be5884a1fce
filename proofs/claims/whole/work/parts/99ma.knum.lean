/-! numbers, arrays of numbers, the keywords' text -/
/-- a method on a String, that changes nothing: what it answers -/
def kMs (l : Launch) (y : MethodName) (bytes : ByteArray) (maxL : Nat) (ret : Option FieldType) (d : Nat) (As : List Value) (v : Value) : Prop := ∀ (sk : (Nat → Nat) × (Nat → Nat)) (H0 : Heap), Met l y (Jvm.Cond.code y bytes maxL ret :: zws) (krm d 0 0) (va_Pc (.ref (sk.1 0) :: As) (fun U => U.heap = H0 ∧ kSx sk (fun _ => False) U H0)) (zQ (some v) (fun t => t.heap = H0) (fun _ => False)) 0 0 (fun _ => False)
def kStr (l : Launch) : Prop := kMs l yJ0_length_8abf5 cJ0_length_8abf5 1 (some .int) 3 [] (.int (Int32.ofInt (kSc.length : Int))) ∧ ∀ j : Nat, j < kSc.length → kMs l yJ0_charAt_5068e cJ0_charAt_5068e 2 (some .char) 3 [.int (Int32.ofInt (j : Int))] (.int (Int32.ofInt (kSc.getD j 0)))
section KSound5
variable {sk : (Nat → Nat) × (Nat → Nat)} {own : String} {cc : ByteArray} {nL : Nat} {p : Program} {l : Launch} {e : Env} {R : Room} {s : State} {m : MethodId} {args : Array Value} {below : List Frame} {meth : Method} {c : Code} {Q : State → Prop} {D : va_G} {A : Nat → Prop} {N0 : Nat → Bool} {ad0 : Nat → Nat} {dA0 : Nat → ClassId}
variable {pc n ce sl : Nat} {lo : ZL} {st : List AV} {W0 : KWd} {ns : List Nat} {y : KST}
theorem ks_bin {f : Int → Int → Int} {F : Int32 → Int32 → Int32} (hf : ∀ x y, F (Int32.ofInt x) (Int32.ofInt y) = Int32.ofInt (f x y)) (row : ∀ (H : Heap) (locs : List Loc) (ls : Array Slot) (rest : List Value) (x y : Int32), W p l e R s m args below meth c H locs ce sl Q (F0 m n ls (.int (F x y) :: rest)) → W p l e R s m args below meth c H locs ce sl Q (F0 m pc ls (.int y :: .int x :: rest)))
    (hs : k_bin n f lo st W0 ns ce sl = some y) (k : KB nL p l e R s m args below meth c Q D A N0 ad0 dA0 y) : KB nL p l e R s m args below meth c Q D A N0 ad0 dA0 (pc, lo, st, W0, ns, ce, sl) := by
  unfold k_bin at hs
  split at hs
  · split at hs
    · rename_i hg
      cases hs
      intro ad dA tys hA H locs ls hP hD hS hK hT hL hG
      refine row H locs ls _ _ _ ?_
      rw [hf]
      exact k ad dA tys hA H locs ls hP hD hS hK hT hL (fun w hw => (List.mem_cons.mp hw).elim (fun e => by rw [e]; exact z_rg hg) (fun h => hG w (List.mem_cons_of_mem _ (List.mem_cons_of_mem _ h))))
    · cases hs
  · cases hs
theorem ks_binL {f : Int → Int → Int} {F : Int64 → Int64 → Int64} (hf : ∀ x y, F (Int64.ofInt x) (Int64.ofInt y) = Int64.ofInt (f x y)) (row : ∀ (H : Heap) (locs : List Loc) (ls : Array Slot) (rest : List Value) (x y : Int64), W p l e R s m args below meth c H locs ce sl Q (F0 m n ls (.long (F x y) :: rest)) → W p l e R s m args below meth c H locs ce sl Q (F0 m pc ls (.long y :: .long x :: rest)))
    (hs : k_binL n f lo st W0 ns ce sl = some y) (k : KB nL p l e R s m args below meth c Q D A N0 ad0 dA0 y) : KB nL p l e R s m args below meth c Q D A N0 ad0 dA0 (pc, lo, st, W0, ns, ce, sl) := by
  unfold k_binL at hs
  split at hs
  · split at hs
    · rename_i hg
      cases hs
      intro ad dA tys hA H locs ls hP hD hS hK hT hL hG
      refine row H locs ls _ _ _ ?_
      rw [hf]
      exact k ad dA tys hA H locs ls hP hD hS hK hT hL (fun w hw => (List.mem_cons.mp hw).elim (fun e => by rw [e]; exact z_rgL hg) (fun h => hG w (List.mem_cons_of_mem _ (List.mem_cons_of_mem _ h))))
    · cases hs
  · cases hs
theorem k_inN {j : Int} {n0 : Nat} (hg : g32 j) (h0 : 0 ≤ j) (h1 : j < (n0 : Int)) : vp_in (Int32.ofInt j) n0 ∧ (Int32.ofInt j).toNatClampNeg = j.toNat := by
  have hN : (Int32.ofInt j).toNatClampNeg = j.toNat := by
    show (Int32.ofInt j).toInt.toNat = _
    rw [hg]
  refine ⟨fun h => ?_, hN⟩
  rcases h with h | h
  · rw [← z0, i32_lt hg g32_0] at h
    omega
  · rw [hN] at h
    omega
theorem ks_lald (C : kCx sk own cc nL p R s m args meth c A) (hd : decode cc pc = .ok (.laload, 1))
    (hs : k_lald pc lo st W0 ns ce sl = some y) (kk : KB nL p l e R s m args below meth c Q D A N0 ad0 dA0 y) : KB nL p l e R s m args below meth c Q D A N0 ad0 dA0 (pc, lo, st, W0, ns, ce, sl) := by
  obtain ⟨hx, hb, hml, hown, hts, hAs, hE, hin2, hfr, hlr, hSx⟩ := C
  unfold k_lald at hs
  split at hs
  · rename_i j q q2 q3 r
    split at hs
    · rename_i i k n0 rs hf
      split at hs
      · rename_i hg
        cases hs
        simp only [Bool.and_eq_true, beq_iff_eq, decide_eq_true_eq] at hg
        obtain ⟨rfl, h0, h1, h2⟩ := hg
        intro ad dA tys hA H locs ls hP hD hS hK hT hL hG
        have hj := kfind0 hf
        have he := kw_at (ad := ad) (dA := dA) hj
        obtain ⟨t0, ht0⟩ := hT _ _ _ _ _ hj
        obtain ⟨g1, g2⟩ := k_inN (hG (vI j) List.mem_cons_self) h0 h1
        refine va_lald (f := fun i => Int64.ofInt (rs.getD i 0)) hx hb hK hP i t0 he ht0 g1 hd ?_
        rw [g2]
        exact kk ad dA tys hA H locs ls hP hD hS hK hT hL (fun w hw => (List.mem_cons.mp hw).elim (fun e => by rw [e]; exact z_rgL h2) (fun h => hG w (List.mem_cons_of_mem _ (List.mem_cons_of_mem _ h))))
      · cases hs
    · cases hs
  · cases hs
theorem ks_last (C : kCx sk own cc nL p R s m args meth c A) (hd : decode cc pc = .ok (.lastore, 1))
    (hs : k_last pc lo st W0 ns ce sl = some y) (kk : KB nL p l e R s m args below meth c Q D A N0 ad0 dA0 y) : KB nL p l e R s m args below meth c Q D A N0 ad0 dA0 (pc, lo, st, W0, ns, ce, sl) := by
  obtain ⟨hx, hb, hml, hown, hts, hAs, hE, hin2, hfr, hlr, hSx⟩ := C
  unfold k_last at hs
  split at hs
  · rename_i x j q q2 q3 r
    split at hs
    · rename_i i k n0 rs hf
      split at hs
      · rename_i hg
        cases hs
        simp only [Bool.and_eq_true, beq_iff_eq, decide_eq_true_eq] at hg
        obtain ⟨rfl, h0, h1⟩ := hg
        intro ad dA tys hA H locs ls hP hD hS hK hT hL hG
        have hj := kfind0 hf
        have he := kw_at (ad := ad) (dA := dA) hj
        obtain ⟨t0, ht0⟩ := hT _ _ _ _ _ hj
        obtain ⟨g1, g2⟩ := k_inN (hG (vI j) (by simp)) h0 h1
        refine va_last (f := fun i => Int64.ofInt (rs.getD i 0)) hx hb hK hP hD hS i t0 he ht0 g1 hd (fun H1 locs1 hP1 hD1 hS1 => ?_)
        have e0 : (ad q, (Sum.inl (dA q, n0, .inr (.inl (vp_updL (fun i => Int64.ofInt (rs.getD i 0)) (Int32.ofInt j).toNatClampNeg (Int64.ofInt x)))) : va_E)) = (ad q, kce ad dA q (.inl (1, n0, kset rs j.toNat x))) := by
          show (_, Sum.inl (_, _, Sum.inr (Sum.inl _))) = (_, Sum.inl (_, _, Sum.inr (Sum.inl _)))
          rw [g2]
          have : vp_updL (fun i => Int64.ofInt (rs.getD i 0)) j.toNat (Int64.ofInt x) = fun i => Int64.ofInt ((kset rs j.toNat x).getD i 0) := by
            funext i
            rw [kset_get]
            unfold vp_updL
            by_cases hi : i = j.toNat
            · rw [if_pos hi, if_pos hi]
            · rw [if_neg hi, if_neg hi]
          rw [this]
        rw [e0, kw_set] at hP1 hD1
        exact kk ad dA tys hA H1 locs1 ls hP1 hD1 hS1 hK (kT_set hT hj (fun k n rs h => by cases h; exact ⟨_, _, rfl⟩)) hL (fun w hw => hG w (List.mem_cons_of_mem _ (List.mem_cons_of_mem _ (List.mem_cons_of_mem _ hw))))
      · cases hs
    · cases hs
  · cases hs
theorem ks_iast (C : kCx sk own cc nL p R s m args meth c A) (hd : decode cc pc = .ok (.iastore, 1))
    (hs : k_iast pc lo st W0 ns ce sl = some y) (kk : KB nL p l e R s m args below meth c Q D A N0 ad0 dA0 y) : KB nL p l e R s m args below meth c Q D A N0 ad0 dA0 (pc, lo, st, W0, ns, ce, sl) := by
  obtain ⟨hx, hb, hml, hown, hts, hAs, hE, hin2, hfr, hlr, hSx⟩ := C
  unfold k_iast at hs
  split at hs
  · rename_i x j q q2 q3 r
    split at hs
    · rename_i i k n0 rs hf
      split at hs
      · rename_i hg
        cases hs
        simp only [Bool.and_eq_true, beq_iff_eq, decide_eq_true_eq] at hg
        obtain ⟨rfl, h0, h1⟩ := hg
        intro ad dA tys hA H locs ls hP hD hS hK hT hL hG
        have hj := kfind0 hf
        have he := kw_at (ad := ad) (dA := dA) hj
        obtain ⟨t0, ht0⟩ := hT _ _ _ _ _ hj
        obtain ⟨g1, g2⟩ := k_inN (hG (vI j) (by simp)) h0 h1
        have hG2 : ∀ w ∈ r, gd [] w := fun w hw => hG w (List.mem_cons_of_mem _ (List.mem_cons_of_mem _ (List.mem_cons_of_mem _ hw)))
        refine va_iast (f := fun i => Int32.ofInt (rs.getD i 0)) hx hb hK hP hD hS i t0 he ht0 g1 hd (fun H1 locs1 hP1 hD1 hS1 => ?_)
        have e0 : (ad q, (Sum.inl (dA q, n0, .inl (upd (fun i => Int32.ofInt (rs.getD i 0)) (Int32.ofInt j).toNatClampNeg (Int32.ofInt x))) : va_E)) = (ad q, kce ad dA q (.inl (0, n0, kset rs j.toNat x))) := by
          show (_, Sum.inl (_, _, Sum.inl _)) = (_, Sum.inl (_, _, Sum.inl _))
          rw [g2]
          have : upd (fun i => Int32.ofInt (rs.getD i 0)) j.toNat (Int32.ofInt x) = fun i => Int32.ofInt ((kset rs j.toNat x).getD i 0) := by
            funext i
            rw [kset_get]
            unfold upd
            by_cases hi : i = j.toNat
            · rw [if_pos hi, if_pos hi]
            · rw [if_neg hi, if_neg hi]
          rw [this]
        by_cases hv : rs.getD j.toNat 0 = x
        · have e1 : kce ad dA q (.inl (0, n0, kset rs j.toNat x)) = kce ad dA q (.inl (0, n0, rs)) := by
            show Sum.inl (_, _, Sum.inl _) = Sum.inl (_, _, Sum.inl _)
            have : (fun i => Int32.ofInt ((kset rs j.toNat x).getD i 0)) = fun i => Int32.ofInt (rs.getD i 0) := by
              funext i
              rw [kset_get]
              by_cases hi : i = j.toNat
              · rw [if_pos hi, hi, hv]
              · rw [if_neg hi]
            rw [this]
          have e2 : W0.set i (q, .inl (0, n0, rs)) = W0 := by
            apply List.ext_getElem?
            intro i2
            by_cases hi : i = i2
            · subst hi
              rw [List.getElem?_set_self (List.getElem?_eq_some_iff.mp hj).1, hj]
            · rw [List.getElem?_set_ne hi]
          rw [e0, e1, kw_set, e2] at hP1 hD1
          rw [if_pos hv] at kk
          exact kk ad dA tys hA H1 locs1 ls hP1 hD1 hS1 hK hT hL hG2
        · rw [e0, kw_set] at hP1 hD1
          rw [if_neg hv] at kk
          exact kk ad dA tys hA H1 locs1 ls hP1 hD1 hS1 hK (kT_set hT hj (fun k n rs h => by cases h; exact ⟨_, _, rfl⟩)) hL hG2
      · cases hs
    · cases hs
  · cases hs
end KSound5
