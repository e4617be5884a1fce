/-! LIVE: a plain STEP of the class, whatever its kind -/
theorem x_plain {c : Nat → Int} {q s r : Nat} {M : AM} (hI : Ic c) (h9 : c 5 ≤ 9999) (hR : Rh c q M) (hq : q + 10 < 45) (hr : r < 60) (hz : 0 ≤ M 69 4 ∧ M 69 4 < 65536) (hT : T70 M) (hy : ystep c 45 M s r) (hk : c (85 + 9 * s) ≤ 5) :
    ∃ N, f_X3_doStep q (r : Int) M = some (((r + 1 : Nat) : Int), N) ∧ Rh (plC c (M 69 4) (c (85 + 9 * s)) (c (86 + 9 * s))) q N ∧ N 69 4 = plZ c (M 69 4) (c (85 + 9 * s)) ∧ (∀ i, i < 4 → N 70 i = M 70 i + plT c (M 69 4) (c (85 + 9 * s)) (c (86 + 9 * s)) i) ∧ (∀ j, 4 ≤ j → N 70 j = M 70 j) ∧ LX q M N ∧ (∀ j, j ≠ 4 → N 69 j = M 69 j) ∧ N 71 = M 71 := by
  unfold ystep at hy
  obtain ⟨y1, y2, y3, y4, y5, y6, y7⟩ := hy
  replace y3 : M 46 r = ykind (c (85 + 9 * s)) := y3
  generalize c (85 + 9 * s) = k at *
  generalize c (86 + 9 * s) = a at *
  rcases (by omega : k = 0 ∨ k = 1 ∨ k = 2 ∨ k = 3 ∨ k = 4 ∨ k = 5) with rfl | rfl | rfl | rfl | rfl | rfl
  · obtain ⟨b1, b2, b3⟩ := y4 rfl
    obtain ⟨n, rfl⟩ : ∃ n : Nat, a = (n : Int) := ⟨a.toNat, by omega⟩
    exact x_step0 hI h9 hR hq hr (by omega) hT y3 b1
  · exact x_step1 hI hR hq hr hT y3
  · exact x_step2 hI hR hq hr hT y3
  · obtain ⟨b1, b2, b3⟩ := y6 (Or.inl rfl)
    obtain ⟨n, rfl⟩ : ∃ n : Nat, a = (n : Int) := ⟨a.toNat, by omega⟩
    exact x_step3 hI hR hq hr b3 hT y3 b1
  · obtain ⟨b1, b2, b3⟩ := y6 (Or.inr rfl)
    obtain ⟨n, rfl⟩ : ∃ n : Nat, a = (n : Int) := ⟨a.toNat, by omega⟩
    exact x_step4 hI hR hq hr b3 hT y3 b1
  · exact x_step5 hI hR hq hr hz hT y3
