/-! the law from its entry -/
theorem zYs_zY : zYs zY := by
  have h : zY.all (fun t => decide (t.2 < 2147483648)) = true := by decide +kernel
  intro q k l0 hq
  have := List.all_eq_true.mp h (k, l0) (List.mem_of_getElem? hq)
  simpa using this
theorem whole_start {p : Program} {e : Env} {s : State} {m : MethodId} {below : List Frame} {meth : Method} {c : Code} (l : Launch) (hflags : l.flags = flags0) {b L : Nat} {xs : Nat → Int32} (hL : L ≤ 3072) (C0 : lw_At p s m meth c b L xs) : W p l e room_1 s m #[Value.ref b] below meth c s.heap [] 0 0 (lw_Z below #[Value.ref b] s) (entryFrame m ([Value.ref b] : List Value).toArray 4) := by
  obtain ⟨hx, hb, hr, hml, hown, hts, hX, hbl, hlocks, hgv⟩ := id C0
  refine law_pre l C0 (fun D ad dA tys H locs ls h998 hP hD hS hK hT hLo => ?_)
  obtain ⟨M', hE⟩ := l_loop (b := b) (L := L) (xs := xs) hL 3072 0 (by omega) (by omega) (kaM m0) RR_start
  have C : zC zY (zy m_LAW).cls (zc m_LAW) (zn m_LAW) p room_1 s m #[Value.ref b] c D tys dA (fun q : Nat => s.heap.size ≤ q) := ⟨hx, hb, hml, hown, fun w hw => hts w (List.mem_filter.mp hw).1, hK, hT, fun _ h => h, zReg_zY⟩
  refine hE p l e room_1 s m #[Value.ref b] below meth c 139 7398 (lw_Z below #[Value.ref b] s) D tys ad dA (fun q : Nat => s.heap.size ≤ q) C zYs_zY (Nat.le_of_ble_eq_true rfl) (Nat.le_of_ble_eq_true rfl) (Nat.le_of_ble_eq_true rfl) (Nat.le_of_ble_eq_true rfl) ⟨h998, hX, hbl, Nat.not_le.mpr hbl⟩ ?_ H locs ls ⟨hP, hD, hS, zgM_start⟩ ⟨hLo.1, hLo.2.1, ?_⟩ (fun _ h => absurd h List.not_mem_nil)
  · intro pcr lo' hret H locs ls hW hLo2 hG
    obtain ⟨_, y, h2⟩ := hret
    have hdg := zdec_plain (ztab_at k_LAW (rn := y.1) (rz := y.2) h2).1 (fun _ _ _ _ => by simp) (fun _ _ => by simp)
    refine W.widen (k := 600000) (n := 7302250) (Nat.le_of_ble_eq_true rfl) (Nat.le_of_ble_eq_true rfl) ?_
    exact W.forget (L := locs) (locs := []) hW.2.2.1.2.2 (lw_ret hx hb hr hlocks hdg)
  · intro i w hi
    match i, hi with
    | 0, hi =>
      cases hi
      exact ⟨(hLo.2.2 0 (vR 998 9 0) rfl).1, Or.inl rfl⟩
    | 1, hi =>
      cases hi
      exact ⟨(hLo.2.2 1 (vR 15 9 0) rfl).1, Or.inr (by decide +kernel)⟩
    | 2, hi =>
      cases hi
      exact ⟨(hLo.2.2 2 (vR 0 9 0) rfl).1, Or.inr (by decide +kernel)⟩
    | 3, hi =>
      cases hi
      exact ⟨(hLo.2.2 3 (vI 0) rfl).1, (hLo.2.2 3 (vI 0) rfl).2⟩
    | i + 4, hi => cases hi
