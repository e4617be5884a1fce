/-! what the statement gives of the start -/
theorem kE_of {args : Array Value} {s : State} (hts : ∀ w ∈ lw_tbl, w.before args s = true) : kE s := by
  have h1 : kNL.all (fun q => lw_tbl.contains (Jvm.Cond.methodLinkNest q.1 q.2.1 q.2.2 RX10)) = true := by decide +kernel
  have h2 : kAL.all (fun C => lw_tbl.contains (Jvm.Cond.arrayOver (.object C))) = true := by decide +kernel
  exact ⟨fun q hq => va_Nw.of rfl (hts _ (List.contains_iff_mem.mp (List.all_eq_true.mp h1 q hq))), fun C hC => va_AO.of (hts _ (List.contains_iff_mem.mp (List.all_eq_true.mp h2 C hC)))⟩
theorem kG_mem : ∀ j : Nat, j < kSc.length → (flatC (Jvm.Cond.and given_1 narrow_1)).contains (Jvm.Cond.eq (.elem (.field (.string RX5 54) "java/lang/String" "value" "[B") (.int (Int32.ofNat j))) (.int ((kSc.map Int32.ofInt).getD j 0))) = true := by decide +kernel
theorem kSx_of {args : Array Value} {s : State} (hts : ∀ w ∈ lw_tbl, w.before args s = true) (hgv : (Jvm.Cond.and given_1 narrow_1).before args s = true) : ∃ sk, kSx sk (fun q : Nat => s.heap.size ≤ q) s s.heap := by
  have hs := flat_of_before _ hgv
  have hA : ∀ a : Nat, a < s.heap.size → ¬ (fun q : Nat => s.heap.size ≤ q) a := fun a h => Nat.not_le.mpr h
  obtain ⟨adK, adV, h1, h2⟩ := vk_Sof (args := args) (s := s) (N := 1) (tm := fun _ => Term.string RX5 54) (len := [kSc.length]) (byt := [kSc.map Int32.ofInt]) (A := fun q : Nat => s.heap.size ≤ q) (fun i hi => by
      have : i = 0 := by omega
      subst this
      decide +kernel) (fun i _ => hs _ (by decide +kernel)) (fun i _ => hs _ (by decide +kernel)) (fun i _ => hs _ (by decide +kernel)) (fun i hi => by
      have : i = 0 := by omega
      subst this
      exact hs _ (by decide +kernel)) (fun i hi j hj => by
      have : i = 0 := by omega
      subst this
      exact hs _ (List.contains_iff_mem.mp (kG_mem j hj))) (fun i j hi hj hne => absurd (by omega : i = j) hne) hA
  refine ⟨(adK, adV), h1, va_Zof (hts _ (by decide +kernel)) (hts _ (by decide +kernel)) (va_eqt (hs _ (by decide +kernel))) hA, va_Zqof (hts _ (by decide +kernel)) (hts _ (by decide +kernel)) (hs _ (by decide +kernel)) hA, ?_⟩
  refine vk_R.of (A := args) (hts _ (by decide +kernel)) (h2 0 (by decide))
