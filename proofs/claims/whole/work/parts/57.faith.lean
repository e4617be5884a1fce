/-! FAITH -/

theorem a_faith (a1 : Int) : Alike (f_X10_faith a1) (f_X11_faith a1) := by
  refine alike_t (fun c => if 0 ≤ a1 ∧ a1 < c 2 then (if c 5 = 0 then 0 else 1) else 0) (fun c => if 0 ≤ a1 ∧ a1 < c 2 then (if c 5 = 0 then 8 else 0) else 2) (fun c => decide (0 ≤ a1 ∧ a1 < c 2 ∧ ¬ c 5 = 0)) (fun c => ((c (71 + a1.toNat)).toNat, (c 5).toNat)) ?_ ?_
  · intro c M hI h9 hR
    have h2 := hI.2.2.1
    have h5 := hI.2.2.2.2.2.1
    have hg := (Rh_iff.mp hR).1
    unfold f_X10_faith
    by_cases g1 : 0 ≤ a1 ∧ a1 < c 2
    · obtain ⟨k, rfl⟩ : ∃ w : Nat, a1 = (w : Int) := ⟨a1.toNat, by omega⟩
      have hk := Ic_k hI g1.2
      have e5 : M 23 5 = c 5 := hg.1.2.2.2.2.2.1
      have e30 : M 30 k = c (71 + k) := (hg.2.2.1 k g1.2).2.2.2.1
      rw [xcoup_t hg g1, bind_s]
      simp only [if_pos g1, i10, not_false_eq_true, if_true, tnc, e5, e30]
      by_cases g : c 5 = 0
      · rw [if_neg (fun h => h g), x_refuse, bind_s]
        simp only [if_pos g, true_or, if_true]
        refine ⟨M, ?_, Qx_refl M, hR⟩
        rw [decide_eq_false (fun h => h.2.2 g)]
        rfl
      · rw [if_pos g, if_pos (by omega)]
        simp only [if_neg g]
        obtain ⟨x, hx⟩ : ∃ x : Nat, c (71 + k) = (x : Int) := ⟨(c (71 + k)).toNat, by omega⟩
        obtain ⟨y, hy⟩ : ∃ y : Nat, c 5 = (y : Int) := ⟨(c 5).toNat, by omega⟩
        rw [hx, hy, x_tell (by omega) (by omega) (by omega), bind_s, x_agree, bind_s, if_pos (Or.inr rfl)]
        refine ⟨M, ?_, Qx_refl M, hR⟩
        rw [decide_eq_true ⟨g1.1, g1.2, by omega⟩]
        simp only [tnc, if_true]
    · rw [xcoup_f hg g1, bind_s]
      simp only [if_neg g1, i00, not_true_eq_false, if_false, x_refuse, bind_s, b01, true_or, if_true]
      refine ⟨M, ?_, Qx_refl M, hR⟩
      rw [decide_eq_false (fun h => g1 ⟨h.1, h.2.1⟩)]
      rfl
  · intro P hI h9
    obtain ⟨M2, hM2, e5, q2, s2, hc, hf⟩ := MS_ok P
    rw [← e5] at hI
    have h2 := hI.2.2.1
    have h5 := hI.2.2.2.2.2.1
    unfold f_X11_faith
    rw [zlet_eq, zlet_eq, hM2, ← e5]
    by_cases g1 : 0 ≤ a1 ∧ a1 < M2 5 2
    · obtain ⟨k, rfl⟩ : ∃ w : Nat, a1 = (w : Int) := ⟨a1.toNat, by omega⟩
      have hk := Ic_k hI g1.2
      rw [mcoup_t hI g1, bind_s]
      simp only [if_pos g1, i10, not_false_eq_true, if_true, tnc]
      simp (disch := omega) only [o_add_eq, tp71, tn5]
      by_cases g : M2 5 5 = 0
      · rw [if_neg (fun h => h g), m_no, bind_s]
        simp only [if_pos g, true_or, if_true]
        rw [decide_eq_false (fun h => h.2.2 g)]
        exact m_end q2 rfl
      · rw [if_pos g, if_pos (by omega)]
        simp only [if_neg g]
        obtain ⟨x, hx⟩ : ∃ x : Nat, M2 5 (71 + k) = (x : Int) := ⟨(M2 5 (71 + k)).toNat, by omega⟩
        obtain ⟨y, hy⟩ : ∃ y : Nat, M2 5 5 = (y : Int) := ⟨(M2 5 5).toNat, by omega⟩
        rw [hx, hy, m_fraction (by omega) (by omega) (by omega), bind_s, if_pos (Or.inr rfl)]
        refine ⟨M2, ?_, q2, rfl, s2⟩
        rw [decide_eq_true ⟨g1.1, g1.2, by omega⟩]
        simp only [tnc, if_true]
    · rw [mcoup_f hI g1, bind_s]
      simp only [if_neg g1, i00, not_true_eq_false, if_false, m_no, bind_s, b01, true_or, if_true]
      rw [decide_eq_false (fun h => g1 ⟨h.1, h.2.1⟩)]
      exact m_end q2 rfl
