/-! what the pieces of the relation look at -/
theorem Rh_cong {c : Nat → Int} {q : Nat} {M N : AM} (h : ∀ i, i ≤ 10 → N (q + i) = M (q + i)) (hR : Rh c q M) : Rh c q N := by
  have h0 := h 0 (by omega)
  have h1 := h 1 (by omega)
  have h2 := h 2 (by omega)
  have h3 := h 3 (by omega)
  have h4 := h 4 (by omega)
  have h5 := h 5 (by omega)
  have h6 := h 6 (by omega)
  have h7 := h 7 (by omega)
  have h8 := h 8 (by omega)
  have h10 := h 10 (by omega)
  simp only [Nat.add_zero] at h0
  unfold Rh at hR ⊢
  rw [h0, h1, h2, h3, h4, h5, h6, h7, h8, h10]
  exact hR
theorem Rn_cong {c n n2 : Nat → Int} {q : Nat} {M N : AM} (h : N (q + 9) = M (q + 9)) (hn : ∀ i, i < 24 → n2 i = n i) (h0 : c 0 ≤ 8) (h1 : c 1 ≤ 10) (h2 : c 2 ≤ 6) (hR : Rn c n q M) : Rn c n2 q N := by
  unfold Rn at hR ⊢
  rw [h]
  obtain ⟨a, b, d, e⟩ := hR
  exact ⟨fun i hi => by rw [hn i (by omega)]; exact a i hi, fun i hi => by rw [hn (8 + i) (by omega)]; exact b i hi, fun i hi => by rw [hn (18 + i) (by omega)]; exact d i hi, e⟩
theorem ystep_cong {c : Nat → Int} {q : Nat} {M N : AM} (h : ∀ i, i ≤ 6 → N (q + i) = M (q + i)) {s r : Nat} (hR : ystep c q M s r) : ystep c q N s r := by
  unfold ystep at hR ⊢
  rw [h 1 (by omega), h 2 (by omega), h 3 (by omega), h 4 (by omega), h 5 (by omega)]
  exact hR
theorem yseq_cong {c : Nat → Int} {q : Nat} {M N : AM} (h : ∀ i, i ≤ 6 → N (q + i) = M (q + i)) : ∀ (n d s e r r2 : Nat), yseq c q M n d s e r r2 → yseq c q N n d s e r r2 := by
  intro n
  induction n with
  | zero => intro d s e r r2 hR; exact hR
  | succ n ih =>
    intro d s e r r2 hR
    rcases hR with hR | ⟨h1, h2, hR⟩
    · exact Or.inl hR
    · refine Or.inr ⟨h1, ystep_cong h h2, ?_⟩
      rcases hR with ⟨a1, a2, a3⟩ | ⟨a1, d', t, m, b1, b2, b3, b4, b5, b6, b7, b8, b9⟩
      · exact Or.inl ⟨a1, a2, ih _ _ _ _ _ a3⟩
      · exact Or.inr ⟨a1, d', t, m, b1, b2, b3, b4, ih _ _ _ _ _ b5, by rw [h 1 (by omega)]; exact b6, by rw [h 6 (by omega)]; exact b7, by rw [h 6 (by omega)]; exact b8, ih _ _ _ _ _ b9⟩
theorem Ry_cong {c : Nat → Int} {q : Nat} {M N : AM} (h : ∀ i, i ≤ 6 → N (q + i) = M (q + i)) (hR : Ry c q M) : Ry c q N := by
  have h0 := h 0 (by omega)
  simp only [Nat.add_zero] at h0
  unfold Ry at hR ⊢
  rw [h0]
  rcases hR with hR | ⟨a1, a2, a3, n, r, b1, b2, b3, b4, b5⟩
  · exact Or.inl hR
  · exact Or.inr ⟨a1, a2, a3, n, r, b1, b2, b3, b4, yseq_cong h _ _ _ _ _ _ b5⟩
theorem Rb_cong {b q y : Nat} {M N : AM} (h5 : ∀ k, k < 355 → N 5 (355 * b + k) = M 5 (355 * b + k)) (h8 : ∀ i, i < 24 → N 8 (24 * b + i) = M 8 (24 * b + i)) (hq : ∀ i, i ≤ 10 → N (q + i) = M (q + i)) (hy : ∀ i, i ≤ 6 → N (y + i) = M (y + i)) (hR : Rb b q y M) : Rb b q y N := by
  unfold Rb at hR ⊢
  rw [blk_eq h5]
  obtain ⟨a1, a2, a3, a4, a5⟩ := hR
  exact ⟨a1, a2, Rh_cong hq a3, Rn_cong (hq 9 (by omega)) h8 a1.1.2 a1.2.1.2 a1.2.2.1.2 a4, Ry_cong hy a5⟩
theorem Rt_cong {M N : AM} (h1 : N 1 = M 1) (h2 : N 2 = M 2) (h3 : N 3 = M 3) (h : ∀ t, t < 4 → N (74 + 2 * t) = M (74 + 2 * t) ∧ N (75 + 2 * t) = M (75 + 2 * t)) (hR : Rt M) : Rt N := by
  intro t ht
  have := hR t ht
  rw [h1, h2, h3, (h t ht).1, (h t ht).2]
  exact this
