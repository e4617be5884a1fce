/-! the start memory stands in the relation -/
theorem RR_start : RR (kaM m0) := by
  have c0 : blk (kaM m0 5) 0 0 = 0 := by decide +kernel
  have c1 : blk (kaM m0 5) 0 1 = 0 := by decide +kernel
  have c2 : blk (kaM m0 5) 0 2 = 0 := by decide +kernel
  have c3 : blk (kaM m0 5) 0 3 = 8 := by decide +kernel
  have c4 : blk (kaM m0 5) 0 4 = 2 := by decide +kernel
  have c5 : blk (kaM m0 5) 0 5 = 0 := by decide +kernel
  have c6 : blk (kaM m0 5) 0 6 = 0 := by decide +kernel
  have c83 : blk (kaM m0 5) 0 83 = 0 := by decide +kernel
  have p8 : kaM m0 0 8 = 0 := by decide +kernel
  have b0 : ∀ (f : Nat → Int), bits 0 0 f := fun f => ⟨0, rfl, by decide, fun w hw => absurd hw (Nat.not_lt_zero _)⟩
  have tr : ∀ t : Nat, t < 4 → kaM m0 (74 + 2 * t) 1 = 0 ∧ kaM m0 2 t = -1 := by decide +kernel
  have ll : ∀ i : Nat, i < 5 → kaM m0 19 i = kaM m0 14 i := by decide +kernel
  refine ⟨by decide +kernel, ⟨by decide +kernel, by decide +kernel⟩, ⟨by decide +kernel, by decide +kernel⟩, fun t ht => Or.inl (tr t ht), ⟨by decide +kernel, by rw [p8]; decide, by rw [p8]; decide, fun k hk => ?_⟩, fun i _ => rfl, ⟨?_, by rw [c5]; decide, ?_, ?_, Or.inl ⟨c83, by decide +kernel⟩⟩, ⟨0, by decide, by decide +kernel, by decide +kernel, fun i hi => absurd hi (Nat.not_lt_zero _)⟩, by decide +kernel, Or.inl (by decide +kernel), ll⟩
  · rw [p8] at hk
    omega
  · refine ⟨by rw [c0]; decide, by rw [c1]; decide, by rw [c2]; decide, by rw [c3]; decide, by rw [c4]; decide, by rw [c5]; decide, Or.inl c6, fun w hw => ?_, fun k hk => ?_⟩
    · rw [c1] at hw
      omega
    · rw [c2] at hk
      omega
  · refine ⟨⟨by rw [c3]; decide +kernel, by rw [c4]; decide +kernel, by rw [c0]; decide +kernel, by rw [c1]; decide +kernel, by rw [c2]; decide +kernel, by rw [c5]; decide +kernel, by rw [c6]; decide +kernel⟩, fun w hw => ?_, fun k hk => ?_, ?_, ?_, Or.inl (by decide +kernel)⟩
    · rw [c1] at hw
      omega
    · rw [c2] at hk
      omega
    · rw [c1]
      exact b0 _
    · rw [c2]
      exact b0 _
  · refine ⟨fun i hi => ?_, fun i hi => ?_, fun i hi => ?_, fun i _ _ => ?_⟩
    · rw [c0] at hi
      omega
    · rw [c1] at hi
      omega
    · rw [c2] at hi
      omega
    · show (m0 32).getD (8 + i) 0 = 0
      have e : m0 32 = [] := rfl
      rw [e]
      rfl
