/-! empties(0) within the model's constructor -/
def kEmp (l : Launch) : Prop := ∀ (D : va_G) (tys : List (ClassId × FieldType)) (ad : Nat → Nat) (dA : Nat → ClassId) (sz : Nat), kT (kWm mM0) dA tys →
  Met l (zy m_X11_empties) (Jvm.Cond.code (zy m_X11_empties) (zc m_X11_empties) (zn m_X11_empties) (zr m_X11_empties) :: zws) (zrm 0) (va_Pc [.ref (ad 0), .int (Int32.ofInt 0)] (fun U => U.heap.size = sz ∧ va_P D zcl (kw ad dA (kWm mM0)) U.heap ∧ va_K D zcl tys U ∧ va_D (fun _ => True) (kw ad dA (kWm mM0))))
    (zQ none (fun t => va_P D zcl (kw ad dA (kWm mM1)) t.heap) (va_A (kw ad dA (kWm mM0)) sz)) 0 0 (va_A (kw ad dA (kWm mM0)) sz)
theorem kD_same {W W' : KWd} {A : Nat → Prop} {ad : Nat → Nat} {dA : Nat → ClassId} (h : W'.map (fun p => p.1) = W.map (fun p => p.1)) (hD : va_D A (kw ad dA W)) : va_D A (kw ad dA W') := by
  have key : ∀ (i : Nat) (p : Nat × va_E), (kw ad dA W')[i]? = some p → ∃ p2, (kw ad dA W)[i]? = some p2 ∧ p2.1 = p.1 := by
    intro i p hp
    simp only [kw, List.getElem?_map, Option.map_eq_some_iff] at hp ⊢
    obtain ⟨t, ht, rfl⟩ := hp
    have h2 : (W'.map (fun p => p.1))[i]? = some t.1 := by rw [List.getElem?_map, ht]; rfl
    rw [h, List.getElem?_map, Option.map_eq_some_iff] at h2
    obtain ⟨t2, e1, e2⟩ := h2
    exact ⟨_, ⟨t2, e1, rfl⟩, by rw [e2]⟩
  refine ⟨fun i j p q hi hj e => ?_, fun k q hk => ?_⟩
  · obtain ⟨p2, hp2, e1⟩ := key i p hi
    obtain ⟨q2, hq2, e2⟩ := key j q hj
    exact hD.1 i j p2 q2 hp2 hq2 (by rw [e1, e2, e])
  · obtain ⟨p2, hp2, e1⟩ := key k q hk
    rw [← e1]
    exact hD.2 k p2 hp2
theorem kT_same {dA : Nat → ClassId} {tys : List (ClassId × FieldType)} (h : kT (kWm mM0) dA tys) : kT (kWm mM1) dA tys := by
  intro i q k n rs hi
  have h2 : (kWm mM1)[i]? = ((List.range 15)[i]?).map (fun q => (q, kzg mM1 q (zY.getD q (0, 0)))) := by unfold kWm; rw [List.getElem?_map]
  rw [hi] at h2
  cases hr : (List.range 15)[i]? with
  | none => rw [hr] at h2; cases h2
  | some q2 =>
    rw [hr] at h2
    have h2 := Option.some.inj h2
    have h3 : (kWm mM0)[i]? = some (q2, kzg mM0 q2 (zY.getD q2 (0, 0))) := by unfold kWm; rw [List.getElem?_map, hr]; rfl
    obtain ⟨e1, e2⟩ := Prod.mk.inj h2
    subst e1
    unfold kzg at e2 h3
    by_cases h4 : (zY.getD q (0, 0)).1 < 3
    · rw [if_pos h4] at e2 h3
      cases e2
      exact h i q _ _ _ h3
    · rw [if_neg h4] at e2 h3
      by_cases h5 : (zY.getD q (0, 0)).1 < 10
      · rw [if_pos h5] at e2 h3
        cases e2
        exact h i q _ _ _ h3
      · rw [if_neg h5] at e2
        cases e2
theorem kWm_names : (kWm mM1).map (fun p => p.1) = (kWm mM0).map (fun p => p.1) := by decide +kernel
section KSound7
variable {sk : (Nat → Nat) × (Nat → Nat)} {own : String} {cc : ByteArray} {nL : Nat} {p : Program} {l : Launch} {e : Env} {R : Room} {s : State} {m : MethodId} {args : Array Value} {below : List Frame} {meth : Method} {c : Code} {Q : State → Prop} {D : va_G} {A : Nat → Prop} {N0 : Nat → Bool} {ad0 : Nat → Nat} {dA0 : Nat → ClassId}
variable {pc n ce sl : Nat} {lo : ZL} {st : List AV} {W0 : KWd} {ns : List Nat} {y : KST}
theorem ks_emp (C : kCx sk own cc nL p R s m args meth c A) (hE : kEmp l) {i i1 : Nat} (hl : zhas i1 (Jvm.Cond.methodLink own i (zy m_X11_empties)) = true) (hfr : 2 ≤ R.frames) (hlo : 128 ≤ R.locals) (hd : decode cc pc = .ok (.invokevirtual i, 3))
    (hs : k_emp R.cells R.slots pc lo st W0 ns ce sl = some y) (kk : KB nL p l e R s m args below meth c Q D A N0 ad0 dA0 y) : KB nL p l e R s m args below meth c Q D A N0 ad0 dA0 (pc, lo, st, W0, ns, ce, sl) := by
  obtain ⟨hx, hb, hml, hown, hts, hAs, hE2, hin2, hfr0, hlr, hSx⟩ := C
  unfold k_emp at hs
  split at hs
  · rename_i x q q2 q3 r
    split at hs
    · rename_i hg
      cases hs
      simp only [Bool.and_eq_true, beq_iff_eq, decide_eq_true_eq] at hg
      obtain ⟨rfl, rfl, hr4, hw, hce, hsl⟩ := hg
      have hw := kweq_ok hw
      subst hw
      have hce := Nat.le_of_ble_eq_true hce
      have hsl := Nat.le_of_ble_eq_true hsl
      intro ad dA tys hA H locs ls hP hD hS hK hT hL hG
      have hFc : ∀ q, va_A (kw ad dA (kWm mM0)) H.size q → A q := by
        intro q h
        rcases h with ⟨k, e, hk⟩ | h
        · exact hD.2 k _ hk
        · exact hAs q (Nat.le_trans hS.1 h)
      have sp := k_X11_empties.spec
      have hins := sp.2.2.2.2.1 rfl
      have hrecv := va_recv (ci := 11) (q := (RX11, TX11, 43)) hK hP rfl (q0 := 0) (by rfl)
      refine z_go (va_runV (As := [.int (Int32.ofInt 0)]) (rest := r.map (cv ad)) (Ts := zws) (C := RX11) ⟨hx, hb, hml, hown, hts⟩ (hE D tys ad dA H.size hT) ⟨⟨rfl, rfl, hfr, ?_, pay_in hts (kgoodw sp.2.1), List.mem_cons_self, hts _ sp.2.1, hts _ sp.2.2.1, sp.2.2.2.2.2.2.1, fun sig h => ?_, hts _ (zhas_mem hl)⟩, hts _ hins.1, hts _ hins.2⟩ ⟨?_, hrecv, fun U hU hW => ⟨rfl, by rw [hU], by rw [hU]; exact hP, va_K.moved hW.alike hK, hD.weaken (fun _ _ _ _ => trivial)⟩⟩ rfl rfl hL.1 rfl (lv_room (zcat_small (Nat.le_of_ble_eq_true hr4))) hd ⟨by simpa using hce, by simpa using hsl⟩) hS (fun q _ h => hFc q h) hFc (fun t H1 locs1 ht hB hS1 => ?_)
      · show 8 + (4 + 11) + 64 * (0 + 1) ≤ R.locals
        omega
      · have h8 := sp.2.2.2.2.2.2.2.1
        rw [h] at h8
        exact (Option.some.inj h8).symm
      · intro a U gg mk q
        obtain ⟨q0, q1, qP, qK, qD⟩ := q
        exact ⟨q0, q1, qP, va_K.moved (u := U) (U := U.calling gg mk a) (Vm.Alike.refl U.vm) qK, qD⟩
      · exact kk ad dA tys hA H1 locs1 ls (by rw [← ht]; exact hB) (kD_same kWm_names hD) hS1 hK (kT_same hT) hL (fun w hw => hG w (List.mem_cons_of_mem _ (List.mem_cons_of_mem _ hw)))
    · cases hs
  · cases hs
end KSound7
