/-! LIVED -/
theorem a_lived (a1 : Int) : Alike (f_X10_lived a1) (f_X11_lived a1) := by
  intro M hR
  obtain ⟨l1, l2, l3⟩ := hR.2.2.2.2.2.2.2.2
  have st : ∀ s : Int, am_upd (am_upd (am_upd M 15 0 s) 0 1 0) 0 0 0 0 34 = M 0 34 := fun s => by rw [am_upd_ne (by omega), am_upd_ne (by omega), am_upd_cell (by decide)]
  by_cases g1 : 0 ≤ a1 ∧ a1 ≤ 4
  · by_cases g2 : M 0 34 = 0
    · refine still hR (-1) 8 ?_ ?_
      · unfold f_X10_lived
        rw [if_neg (by omega), if_pos (by omega), l1, if_pos g2, x_fail, bind_s]
      · unfold f_X11_lived
        rw [zlet_eq, zlet_eq, isin_t g1, bind_s]
        simp only [i10, not_false_eq_true, if_true, st]
        rw [if_pos g2, m_refuse, bind_s, am_upd_tw]
    · obtain ⟨i, rfl⟩ : ∃ i : Nat, a1 = (i : Int) := ⟨a1.toNat, by omega⟩
      refine still hR (M 14 i) 0 ?_ ?_
      · unfold f_X10_lived
        rw [if_neg (by omega), if_pos (by omega), l1, if_neg g2, if_pos (by omega), tnc, l3 i (by omega), x_answer, bind_s]
      · unfold f_X11_lived
        rw [zlet_eq, zlet_eq, isin_t g1, bind_s]
        simp only [i10, not_false_eq_true, if_true, st, tnc]
        rw [if_neg g2, if_pos (by omega), st_row2 (by decide) (by decide)]
  · refine still hR (-1) 5 ?_ ?_
    · unfold f_X10_lived f_X10_lived_9
      by_cases g3 : a1 < 0
      · rw [if_pos g3, x_fail, bind_s]
      · rw [if_neg g3, if_neg (by omega), x_fail, bind_s]
    · unfold f_X11_lived
      rw [zlet_eq, zlet_eq, isin_f g1, bind_s]
      simp only [i00, not_true_eq_false, if_false, m_refuse, bind_s, am_upd_tw]
