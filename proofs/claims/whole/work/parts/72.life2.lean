/-! LIVE: one STEP, the model -/
theorem m_isCut {M : AM} {w : Nat} (hw : w < 10) (h41 : 0 ≤ M 0 41 ∧ M 0 41 < 1000000) :
    f_X11_isCut (w : Int) M = some (if M 5 (37 + w) = 0 then 0 else 1, if M 5 (37 + w) = 0 then M else am_upd (am_upd M 5 (37 + w) 0) 0 41 (M 0 41 + 1)) := by
  unfold f_X11_isCut
  rw [o_add_eq (by omega) (by omega), show (37 : Int) + (w : Int) = ((37 + w : Nat) : Int) by omega, m_becomes (by omega)]
  by_cases g : M 5 (37 + w) = 0
  · rw [if_pos g, bind_s, if_pos g, if_pos g]
    dsimp only
    rw [if_neg (fun h => h rfl)]
  · rw [if_neg g, bind_s, if_neg g, if_neg g]
    dsimp only
    rw [if_pos (by decide), zlet_eq, am_upd_cell (show ¬ 0 = 5 by decide), o_add_eq (by omega) (by omega)]
theorem m_any {M : AM} (hI : Ic (M 5)) (hz : 0 ≤ M 0 36 ∧ M 0 36 < 65536) (h41 : 0 ≤ M 0 41 ∧ M 0 41 < 1000000) :
    ∃ N, f_X11_isAny M = some (if hitK (M 5) (M 0 36) = 0 then 0 else 1, N) ∧ N 5 = hitC (M 5) (M 0 36) ∧ N 0 36 = hitZ (M 5) (M 0 36) ∧ N 0 41 = M 0 41 + (if hitK (M 5) (M 0 36) = 2 then 1 else 0) ∧ (∀ x, x ≠ 0 → x ≠ 5 → N x = M x) ∧ ∀ j, j ≠ 36 → j ≠ 41 → N 0 j = M 0 j := by
  have hc1 := hI.2.1
  unfold f_X11_isAny
  rw [tn1]
  by_cases g : 1 ≤ M 5 1
  · have hw := hitW_r hI hz g
    obtain ⟨w, hwe⟩ : ∃ w : Nat, hitW (M 5) (M 0 36) = (w : Int) := ⟨(hitW (M 5) (M 0 36)).toNat, by omega⟩
    have hwl : (w : Int) < M 5 1 := by omega
    have hIw := Ic_w hI hwl
    have hwe2 : sdV (sdN (M 0 36)) (M 5 1) = (w : Int) := by rw [← hwe]; unfold hitW; rfl
    rw [if_pos (by omega), m_draw g, bind_s]
    dsimp only
    rw [m_draw (by decide), bind_s, am_upd_self, tn4]
    dsimp only
    simp only [hwe2]
    rw [am_upd_cell (show ¬ 5 = 0 by decide)]
    rw [am_upd_cell (show ¬ 5 = 0 by decide)]
    generalize hP : am_upd (am_upd M 0 36 (sdN (M 0 36))) 0 36 (sdN (sdN (M 0 36))) = P
    have pc : ∀ x, x ≠ 0 → P x = M x := fun x h => by rw [← hP, am_upd_cell h, am_upd_cell h]
    have p36 : P 0 36 = hitZ (M 5) (M 0 36) := by rw [← hP, am_upd_self]; unfold hitZ; rw [if_pos g]
    have pj : ∀ j, j ≠ 36 → P 0 j = M 0 j := fun j hj => by rw [← hP, am_upd_ne (fun h => hj h.2), am_upd_ne (fun h => hj h.2)]
    have p5 : P 5 = M 5 := pc 5 (by decide)
    have p41 : P 0 41 = M 0 41 := pj 41 (by decide)
    have hstay : hitK (M 5) (M 0 36) = 0 → ∃ N, (some ((0 : Int), P) : Option (Int × AM)) = some (if hitK (M 5) (M 0 36) = 0 then 0 else 1, N) ∧ N 5 = hitC (M 5) (M 0 36) ∧ N 0 36 = hitZ (M 5) (M 0 36) ∧ N 0 41 = M 0 41 + (if hitK (M 5) (M 0 36) = 2 then 1 else 0) ∧ (∀ x, x ≠ 0 → x ≠ 5 → N x = M x) ∧ ∀ j, j ≠ 36 → j ≠ 41 → N 0 j = M 0 j := by
      intro hk
      have hC : hitC (M 5) (M 0 36) = M 5 := by unfold hitC; rw [hk]; rfl
      rw [hC, hk]
      exact ⟨P, rfl, p5, p36, by rw [p41]; simp, fun x h _ => pc x h, fun j h _ => pj j h⟩
    have hunf : hitK (M 5) (M 0 36) = if M 5 (37 + w) = 1 then (if M 5 4 ≤ sdV (sdN (sdN (M 0 36))) 16 then (if M 5 (27 + w) < 9 then 1 else 0) else 2) else 0 := by
      unfold hitK
      rw [if_neg (fun h => h g), hwe, tnc]
    unfold f_X11_isAny_42
    rw [o_add_eq (x := 37) (by omega) (by omega), o_add_eq (x := 27) (by omega) (by omega), tp37, tp27, p5]
    by_cases g1 : M 5 (37 + w) = 1
    · rw [if_pos g1] at hunf
      have d37 : (0 : Int) ≤ 37 + (w : Int) ∧ 37 + (w : Int) < 1775 := by omega
      have d27 : (0 : Int) ≤ 27 + (w : Int) ∧ 27 + (w : Int) < 1775 := by omega
      have n0 : ¬ M 5 (37 + w) = 0 := by omega
      simp only [if_pos d37, if_pos d27, n0, not_false_eq_true, if_true, i10, if_false]
      by_cases g2 : M 5 4 ≤ sdV (sdN (sdN (M 0 36))) 16
      · rw [if_pos g2] at hunf ⊢
        by_cases g3 : M 5 (27 + w) < 9
        · rw [if_pos g3] at hunf
          have hC : hitC (M 5) (M 0 36) = cset (M 5) (27 + w) (M 5 (27 + w) + 1) := by unfold hitC; rw [hunf, if_pos rfl, hwe, tnc]
          rw [if_pos (by omega), o_add_eq (by omega) (by omega), zlet_eq, hC, hunf]
          refine ⟨_, rfl, ?_, ?_, ?_, fun x h1 h2 => ?_, fun j h1 h2 => ?_⟩
          · rw [am5, p5]
          · rw [am_upd_cell (by decide)]; exact p36
          · rw [am_upd_cell (by decide), p41]; simp
          · rw [am_upd_cell h2]; exact pc x h1
          · rw [am_upd_cell (by decide)]; exact pj j h1
        · rw [if_neg g3] at hunf
          rw [if_neg (by omega)]
          exact hstay hunf
      · rw [if_neg g2] at hunf ⊢
        rw [m_isCut (by omega) (by rw [p41]; exact h41), p5, if_neg n0, if_neg n0, bind_s]
        have hC : hitC (M 5) (M 0 36) = cset (M 5) (37 + w) 0 := by unfold hitC; rw [hunf, if_neg (by decide), if_pos rfl, hwe, tnc]
        dsimp only
        rw [if_pos (Or.inr rfl), hC, hunf]
        refine ⟨_, rfl, ?_, ?_, ?_, fun x h1 h2 => ?_, fun j h1 h2 => ?_⟩
        · rw [am_upd_cell (by decide), am5, p5]
        · rw [am_upd_ne (by omega), am_upd_cell (by decide)]; exact p36
        · rw [am_upd_self, p41]; rfl
        · rw [am_upd_cell h1, am_upd_cell h2]; exact pc x h1
        · rw [am_upd_ne (fun h => h2 h.2), am_upd_cell (by decide)]; exact pj j h1
    · rw [if_neg g1] at hunf
      have d37 : (0 : Int) ≤ 37 + (w : Int) ∧ 37 + (w : Int) < 1775 := by omega
      have n0 : M 5 (37 + w) = 0 := hIw.2.2.2.resolve_right g1
      simp only [if_pos d37, n0, not_true_eq_false, if_false, ite_self]
      exact hstay hunf
  · have hk : hitK (M 5) (M 0 36) = 0 := by unfold hitK; rw [if_pos g]
    have hC : hitC (M 5) (M 0 36) = M 5 := by unfold hitC; rw [hk]; rfl
    have hZ : hitZ (M 5) (M 0 36) = M 0 36 := by unfold hitZ; rw [if_neg g]
    rw [if_neg (by omega), hC, hk, hZ]
    exact ⟨M, rfl, rfl, rfl, by simp, fun _ _ _ => rfl, fun _ _ _ => rfl⟩
