/-! STRETCH, MOVE, WED, DIVORCE, DAY -/
theorem a_stretch (a1 a2 : Int) : Alike (f_X10_stretch a1 a2) (f_X11_stretch a1 a2) := by
  refine alike_h (fun c => if (0 ≤ a1 ∧ a1 < c 1) ∧ (0 ≤ a2 ∧ a2 ≤ 9) then 1 else 0) (fun c => if 0 ≤ a1 ∧ a1 < c 1 then (if 0 ≤ a2 ∧ a2 ≤ 9 then 0 else 5) else 2) (fun c => if (0 ≤ a1 ∧ a1 < c 1) ∧ (0 ≤ a2 ∧ a2 ≤ 9) then cset c (27 + a1.toNat) a2 else c) ?_ ?_ ?_
  · intro c M hI h9 hR
    have h1 := hI.2.1
    have hg := (Rh_iff.mp hR).1
    unfold f_X10_stretch f_X10_stretch_27
    by_cases g1 : 0 ≤ a1 ∧ a1 < c 1
    · obtain ⟨w, rfl⟩ : ∃ w : Nat, a1 = (w : Int) := ⟨a1.toNat, by omega⟩
      rw [xwire_t hg g1, bind_s]
      simp only [if_pos g1, i10, not_false_eq_true, if_true, tnc]
      by_cases g2 : 0 ≤ a2 ∧ a2 ≤ 9
      · have g3 : (0 ≤ (w : Int) ∧ (w : Int) < c 1) ∧ (0 ≤ a2 ∧ a2 ≤ 9) := ⟨g1, g2⟩
        simp only [if_pos g2, if_pos g3]
        obtain ⟨N, e, hN, hE⟩ := x_setSlack (Ib_of hI) hg g1.2 a2
        rw [if_neg (by omega), if_pos (by omega), e, bind_s, x_agree, bind_s, if_pos (Or.inr rfl)]
        exact x_end ⟨fun a ha => hE a (by rintro rfl; exact ha (by unfold xcell; omega)) (by rintro rfl; exact ha (by unfold xcell; omega)), fun j hj => by rw [hE 15 (by decide) (by decide)]⟩ hN
      · have g3 : ¬ ((0 ≤ (w : Int) ∧ (w : Int) < c 1) ∧ (0 ≤ a2 ∧ a2 ≤ 9)) := fun h => g2 h.2
        simp only [if_neg g2, if_neg g3, x_refuse, bind_s, if_pos (Or.inl rfl : (0 : Int) = 0 ∨ (0 : Int) = 1)]
        by_cases g4 : a2 < 0
        · rw [if_pos g4]; exact x_end (Qx_refl M) hR
        · rw [if_neg g4, if_neg (by omega)]; exact x_end (Qx_refl M) hR
    · have g3 : ¬ ((0 ≤ a1 ∧ a1 < c 1) ∧ (0 ≤ a2 ∧ a2 ≤ 9)) := fun h => g1 h.1
      rw [xwire_f hg g1, bind_s]
      simp only [if_neg g1, if_neg g3, i00, not_true_eq_false, if_false, x_refuse, bind_s, true_or, if_true]
      exact x_end (Qx_refl M) hR
  · intro P hI h9
    obtain ⟨M2, hM2, e5, q2, s2, hc, hf⟩ := MS_ok P
    rw [← e5] at hI
    have h1 := hI.2.1
    unfold f_X11_stretch
    rw [zlet_eq, zlet_eq, hM2, ← e5]
    by_cases g1 : 0 ≤ a1 ∧ a1 < M2 5 1
    · obtain ⟨w, rfl⟩ : ∃ w : Nat, a1 = (w : Int) := ⟨a1.toNat, by omega⟩
      rw [mwire_t hI g1, bind_s]
      simp only [if_pos g1, i10, not_false_eq_true, if_true, tnc]
      by_cases g2 : 0 ≤ a2 ∧ a2 ≤ 9
      · have g3 : (0 ≤ (w : Int) ∧ (w : Int) < M2 5 1) ∧ (0 ≤ a2 ∧ a2 ≤ 9) := ⟨g1, g2⟩
        rw [isin_t g2, bind_s]
        simp only [if_pos g2, if_pos g3, i10, not_false_eq_true, if_true]
        simp (disch := omega) only [o_add_eq (x := 27), tp27]
        rw [if_pos (by omega), zlet_eq]
        exact m_fin (Qm_cell a2 (by unfold mcell; omega) (by decide) q2) (am5 M2 (27 + w) a2) (by rw [am_upd_cell (by decide)]; exact s2)
      · have g3 : ¬ ((0 ≤ (w : Int) ∧ (w : Int) < M2 5 1) ∧ (0 ≤ a2 ∧ a2 ≤ 9)) := fun h => g2 h.2
        rw [isin_f g2, bind_s]
        simp only [if_neg g2, if_neg g3, i00, not_true_eq_false, if_false, m_no, bind_s, true_or, if_true]
        exact m_end q2 rfl
    · have g3 : ¬ ((0 ≤ a1 ∧ a1 < M2 5 1) ∧ (0 ≤ a2 ∧ a2 ≤ 9)) := fun h => g1 h.1
      rw [mwire_f hI g1, bind_s]
      simp only [if_neg g1, if_neg g3, i00, not_true_eq_false, if_false, m_no, bind_s, true_or, if_true]
      exact m_end q2 rfl
  · intro c hI h9
    have h1 := hI.2.1
    by_cases g3 : (0 ≤ a1 ∧ a1 < c 1) ∧ (0 ≤ a2 ∧ a2 ≤ 9)
    · simp only [if_pos g3]
      exact ⟨Ic_slack hI (by omega) g3.2, keep_cset _ (by omega) h9⟩
    · simp only [if_neg g3]
      exact keep_c hI h9
/-- FAR does not look at what is no room, no wire -/
theorem fD_csetb {c : Nat → Int} (hI : Ib c) {j : Nat} {v : Int} (h : 1 < j) (h2 : j < 7 ∨ 47 ≤ j) : fD (cset c j v) = fD c := by
  have h1 := hI.2.1
  refine fD_cong (cset_ne (by omega)) (cset_ne (by omega)) (fun w hw => ⟨cset_ne (by omega), cset_ne (by omega), cset_ne (by omega), cset_ne (by omega)⟩)
theorem a_wed (a1 a2 : Int) : Alike (f_X10_wed a1 a2) (f_X11_wed a1 a2) := by
  refine alike_h (fun c => if (0 ≤ a1 ∧ a1 < c 2) ∧ (1 ≤ a2 ∧ a2 ≤ 9) then 1 else 0) (fun c => if 0 ≤ a1 ∧ a1 < c 2 then (if 1 ≤ a2 ∧ a2 ≤ 9 then 0 else 5) else 2) (fun c => if (0 ≤ a1 ∧ a1 < c 2) ∧ (1 ≤ a2 ∧ a2 ≤ 9) then cset (cset c (59 + a1.toNat) a2) (65 + a1.toNat) 1 else c) ?_ ?_ ?_
  · intro c M hI h9 hR
    have h1 := hI.2.2.1
    have hg := (Rh_iff.mp hR).1
    unfold f_X10_wed f_X10_wed_28
    by_cases g1 : 0 ≤ a1 ∧ a1 < c 2
    · obtain ⟨w, rfl⟩ : ∃ w : Nat, a1 = (w : Int) := ⟨a1.toNat, by omega⟩
      rw [xcoup_t hg g1, bind_s]
      simp only [if_pos g1, i10, not_false_eq_true, if_true, tnc]
      by_cases g2 : 1 ≤ a2 ∧ a2 ≤ 9
      · have g3 : (0 ≤ (w : Int) ∧ (w : Int) < c 2) ∧ (1 ≤ a2 ∧ a2 ≤ 9) := ⟨g1, g2⟩
        simp only [if_pos g2, if_pos g3]
        rw [if_neg (by omega), if_pos (by omega), if_pos (by omega), zlet_eq, zlet_eq, x_agree, bind_s, if_pos (Or.inr rfl)]
        have hA := Rg_love (q := 23) (Ib_of hI) g1.2 a2 hg
        have hA2 := Rh_keep (z := 29) (i := w) hI (j := 59 + w) (by omega) (by omega) hR hA
        have hB := Rg_holdOn (q := 23) (Ib_cset (Ib_of hI) (j := 59 + w) (by omega) a2) (i := w) (by rw [cset_ne (by omega)]; exact g1.2) hA
        have hB2 := Rh_iff.mpr ⟨hB, Rz_cong (c2 := cset (cset c (59 + w) a2) (65 + w) 1) (N := am_upd (am_upd M 29 w a2) 23 8 (o_or (am_upd M 29 w a2 23 8) (o_shl 1 (w : Int)))) (cset_ne (by omega)) (fD_csetb (Ib_cset (Ib_of hI) (j := 59 + w) (by omega) a2) (by omega) (by omega)) (am_upd_ne (by omega)) (am_upd_cell (by decide)) (Rh_iff.mp hA2).2⟩
        exact x_end (Qx_upd 8 _ (by unfold xcell; omega) (by decide) (Qx_upd w a2 (by unfold xcell; omega) (by decide) (Qx_refl M))) hB2
      · have g3 : ¬ ((0 ≤ (w : Int) ∧ (w : Int) < c 2) ∧ (1 ≤ a2 ∧ a2 ≤ 9)) := fun h => g2 h.2
        simp only [if_neg g2, if_neg g3, x_refuse, bind_s, if_pos (Or.inl rfl : (0 : Int) = 0 ∨ (0 : Int) = 1)]
        by_cases g4 : a2 < 1
        · rw [if_pos g4]; exact x_end (Qx_refl M) hR
        · rw [if_neg g4, if_neg (by omega)]; exact x_end (Qx_refl M) hR
    · have g3 : ¬ ((0 ≤ a1 ∧ a1 < c 2) ∧ (1 ≤ a2 ∧ a2 ≤ 9)) := fun h => g1 h.1
      rw [xcoup_f hg g1, bind_s]
      simp only [if_neg g1, if_neg g3, i00, not_true_eq_false, if_false, x_refuse, bind_s, true_or, if_true]
      exact x_end (Qx_refl M) hR
  · intro P hI h9
    obtain ⟨M2, hM2, e5, q2, s2, hc, hf⟩ := MS_ok P
    rw [← e5] at hI
    have h1 := hI.2.2.1
    unfold f_X11_wed
    rw [zlet_eq, zlet_eq, hM2, ← e5]
    by_cases g1 : 0 ≤ a1 ∧ a1 < M2 5 2
    · obtain ⟨w, rfl⟩ : ∃ w : Nat, a1 = (w : Int) := ⟨a1.toNat, by omega⟩
      rw [mcoup_t hI g1, bind_s]
      simp only [if_pos g1, i10, not_false_eq_true, if_true, tnc]
      by_cases g2 : 1 ≤ a2 ∧ a2 ≤ 9
      · have g3 : (0 ≤ (w : Int) ∧ (w : Int) < M2 5 2) ∧ (1 ≤ a2 ∧ a2 ≤ 9) := ⟨g1, g2⟩
        rw [isin_t g2, bind_s]
        simp only [if_pos g2, if_pos g3, i10, not_false_eq_true, if_true]
        simp (disch := omega) only [o_add_eq (x := 59), o_add_eq (x := 65), tp59, tp65]
        rw [if_pos (by omega), zlet_eq, if_pos (by omega), zlet_eq]
        exact m_fin (Qm_cell 1 (by unfold mcell; omega) (by decide) (Qm_cell a2 (by unfold mcell; omega) (by decide) q2)) (am5_2 M2 (59 + w) (65 + w) a2 1) (am5_s2 (59 + w) (65 + w) a2 1 s2)
      · have g3 : ¬ ((0 ≤ (w : Int) ∧ (w : Int) < M2 5 2) ∧ (1 ≤ a2 ∧ a2 ≤ 9)) := fun h => g2 h.2
        rw [isin_f g2, bind_s]
        simp only [if_neg g2, if_neg g3, i00, not_true_eq_false, if_false, m_no, bind_s, true_or, if_true]
        exact m_end q2 rfl
    · have g3 : ¬ ((0 ≤ a1 ∧ a1 < M2 5 2) ∧ (1 ≤ a2 ∧ a2 ≤ 9)) := fun h => g1 h.1
      rw [mcoup_f hI g1, bind_s]
      simp only [if_neg g1, if_neg g3, i00, not_true_eq_false, if_false, m_no, bind_s, true_or, if_true]
      exact m_end q2 rfl
  · intro c hI h9
    have h1 := hI.2.2.1
    by_cases g3 : (0 ≤ a1 ∧ a1 < c 2) ∧ (1 ≤ a2 ∧ a2 ≤ 9)
    · simp only [if_pos g3]
      exact ⟨Ic_love hI (by omega) (by omega) (Or.inr rfl) (fun _ => by omega), keep_cset2 _ _ (by omega) (by omega) h9⟩
    · simp only [if_neg g3]
      exact keep_c hI h9
theorem a_divorce (a1 : Int) : Alike (f_X10_divorce a1) (f_X11_divorce a1) := by
  refine alike_h (fun c => if (0 ≤ a1 ∧ a1 < c 2) ∧ c (65 + a1.toNat) = 1 then c (59 + a1.toNat) else -1) (fun c => if 0 ≤ a1 ∧ a1 < c 2 then (if c (65 + a1.toNat) = 1 then 0 else 9) else 2) (fun c => if (0 ≤ a1 ∧ a1 < c 2) ∧ c (65 + a1.toNat) = 1 then cset (cset c (59 + a1.toNat) 0) (65 + a1.toNat) 0 else c) ?_ ?_ ?_
  · intro c M hI h9 hR
    have h1 := hI.2.2.1
    have hg := (Rh_iff.mp hR).1
    unfold f_X10_divorce
    by_cases g1 : 0 ≤ a1 ∧ a1 < c 2
    · obtain ⟨w, rfl⟩ : ∃ w : Nat, a1 = (w : Int) := ⟨a1.toNat, by omega⟩
      rw [xcoup_t hg g1, bind_s]
      simp only [if_pos g1, i10, not_false_eq_true, if_true, tnc]
      rw [x_isHolding (Ib_of hI) hg g1.2, bind_s]
      by_cases g2 : c (65 + w) = 1
      · have g3 : (0 ≤ (w : Int) ∧ (w : Int) < c 2) ∧ c (65 + w) = 1 := ⟨g1, g2⟩
        simp only [if_pos g2, if_pos g3, i10, not_false_eq_true, if_true]
        have e29 : M 29 w = c (59 + w) := (hg.2.2.1 w g1.2).2.2.1
        rw [if_pos (by omega), zlet_eq, zlet_eq, x_answer, bind_s, e29]
        have hA := Rg_love (q := 23) (Ib_of hI) g1.2 0 hg
        have hA2 := Rh_keep (z := 29) (i := w) hI (j := 59 + w) (by omega) (by omega) hR hA
        have hB := Rg_holdOff (q := 23) (Ib_cset (Ib_of hI) (j := 59 + w) (by omega) 0) (i := w) (by rw [cset_ne (by omega)]; exact g1.2) hA
        have hB2 := Rh_iff.mpr ⟨hB, Rz_cong (c2 := cset (cset c (59 + w) 0) (65 + w) 0) (N := am_upd (am_upd M 29 w 0) 23 8 (o_and (am_upd M 29 w 0 23 8) (o_xor (o_shl 1 (w : Int)) (-1)))) (cset_ne (by omega)) (fD_csetb (Ib_cset (Ib_of hI) (j := 59 + w) (by omega) 0) (by omega) (by omega)) (am_upd_ne (by omega)) (am_upd_cell (by decide)) (Rh_iff.mp hA2).2⟩
        exact x_end (Qx_upd 8 _ (by unfold xcell; omega) (by decide) (Qx_upd w 0 (by unfold xcell; omega) (by decide) (Qx_refl M))) hB2
      · have g3 : ¬ ((0 ≤ (w : Int) ∧ (w : Int) < c 2) ∧ c (65 + w) = 1) := fun h => g2 h.2
        simp only [if_neg g2, if_neg g3, i00, not_true_eq_false, if_false, x_fail, bind_s]
        exact x_end (Qx_refl M) hR
    · have g3 : ¬ ((0 ≤ a1 ∧ a1 < c 2) ∧ c (65 + a1.toNat) = 1) := fun h => g1 h.1
      rw [xcoup_f hg g1, bind_s]
      simp only [if_neg g1, if_neg g3, i00, not_true_eq_false, if_false, x_fail, bind_s]
      exact x_end (Qx_refl M) hR
  · intro P hI h9
    obtain ⟨M2, hM2, e5, q2, s2, hc, hf⟩ := MS_ok P
    rw [← e5] at hI
    have h1 := hI.2.2.1
    unfold f_X11_divorce
    rw [zlet_eq, zlet_eq, hM2, ← e5]
    by_cases g1 : 0 ≤ a1 ∧ a1 < M2 5 2
    · obtain ⟨w, rfl⟩ : ∃ w : Nat, a1 = (w : Int) := ⟨a1.toNat, by omega⟩
      have hk := Ic_k hI g1.2
      have ej : o_add 65 (w : Int) = ((65 + w : Nat) : Int) := by rw [o_add_eq (by omega) (by omega)]; omega
      rw [mcoup_t hI g1, bind_s]
      simp only [if_pos g1, i10, not_false_eq_true, if_true, tnc]
      simp (disch := omega) only [o_add_eq (x := 59), tp59]
      rw [if_pos (by omega), ej, m_becomes (by omega)]
      by_cases g2 : M2 5 (65 + w) = 1
      · have g3 : (0 ≤ (w : Int) ∧ (w : Int) < M2 5 2) ∧ M2 5 (65 + w) = 1 := ⟨g1, g2⟩
        rw [if_neg (by omega), bind_s]
        simp only [if_pos g2, if_pos g3, i10, not_false_eq_true, if_true]
        rw [zlet_eq]
        refine m_fin (Qm_cell 0 (by unfold mcell; omega) (by decide) (Qm_cell 0 (by unfold mcell; omega) (by decide) q2)) ?_ (am5_s2 (65 + w) (59 + w) 0 0 s2)
        rw [am5_2]
        funext j
        unfold cset
        by_cases e : j = 59 + w
        · rw [if_pos e, if_neg (by omega), if_pos e]
        · rw [if_neg (c := j = 59 + w) e, if_neg (c := j = 59 + w) e]
      · have g3 : ¬ ((0 ≤ (w : Int) ∧ (w : Int) < M2 5 2) ∧ M2 5 (65 + w) = 1) := fun h => g2 h.2
        rw [if_pos (by omega), bind_s]
        simp only [if_neg g2, if_neg g3, i00, not_true_eq_false, if_false, m_refuse, bind_s]
        exact m_end q2 rfl
    · have g3 : ¬ ((0 ≤ a1 ∧ a1 < M2 5 2) ∧ M2 5 (65 + a1.toNat) = 1) := fun h => g1 h.1
      rw [mcoup_f hI g1, bind_s]
      simp only [if_neg g1, if_neg g3, i00, not_true_eq_false, if_false, m_refuse, bind_s]
      exact m_end q2 rfl
  · intro c hI h9
    have h1 := hI.2.2.1
    by_cases g3 : (0 ≤ a1 ∧ a1 < c 2) ∧ c (65 + a1.toNat) = 1
    · simp only [if_pos g3]
      exact ⟨Ic_love hI (by omega) (by omega) (Or.inl rfl) (fun _ => by omega), keep_cset2 _ _ (by omega) (by omega) h9⟩
    · simp only [if_neg g3]
      exact keep_c hI h9
theorem a_move (a1 a2 a3 : Int) : Alike (f_X10_move a1 a2 a3) (f_X11_move a1 a2 a3) := by
  refine alike_h (fun c => if ((0 ≤ a1 ∧ a1 < c 2) ∧ (0 ≤ a3 ∧ a3 < c 0)) ∧ (0 ≤ a2 ∧ a2 ≤ 1) ∧ ¬ c (47 + 6 * a2.toNat + a1.toNat) = a3 then c (47 + 6 * a2.toNat + a1.toNat) else -1)
    (fun c => if (0 ≤ a1 ∧ a1 < c 2) ∧ (0 ≤ a3 ∧ a3 < c 0) then (if 0 ≤ a2 ∧ a2 ≤ 1 then (if c (47 + 6 * a2.toNat + a1.toNat) = a3 then 9 else 0) else 5) else 2)
    (fun c => if ((0 ≤ a1 ∧ a1 < c 2) ∧ (0 ≤ a3 ∧ a3 < c 0)) ∧ (0 ≤ a2 ∧ a2 ≤ 1) ∧ ¬ c (47 + 6 * a2.toNat + a1.toNat) = a3 then cset c (47 + 6 * a2.toNat + a1.toNat) a3 else c) ?_ ?_ ?_
  · intro c M hI h9 hR
    have h1 := hI.2.2.1
    have hg := (Rh_iff.mp hR).1
    unfold f_X10_move f_X10_move_22
    by_cases g1 : 0 ≤ a1 ∧ a1 < c 2
    · obtain ⟨w, rfl⟩ : ∃ w : Nat, a1 = (w : Int) := ⟨a1.toNat, by omega⟩
      rw [xcoup_t hg g1, bind_s]
      simp only [i10, if_false, tnc]
      by_cases g4 : 0 ≤ a3 ∧ a3 < c 0
      · rw [xroom_t hg g4, bind_s]
        have g5 : (0 ≤ (w : Int) ∧ (w : Int) < c 2) ∧ (0 ≤ a3 ∧ a3 < c 0) := ⟨g1, g4⟩
        simp only [if_pos g5, i10, not_false_eq_true, if_true]
        have hkr := hg.2.2.1 w g1.2
        have e27 : M 27 w = c (47 + w) := hkr.1
        have e28 : M 28 w = c (53 + w) := hkr.2.1
        by_cases g2 : 0 ≤ a2 ∧ a2 ≤ 1
        · simp only [if_pos g2]
          rcases (by omega : a2 = 0 ∨ a2 = 1) with rfl | rfl
          · have ei : 47 + 6 * (0 : Int).toNat + w = 47 + w := rfl
            rw [ei]
            unfold f_X10_move_43 f_X10_move_64
            rw [if_pos rfl, if_neg (fun h => h rfl), if_pos (by omega), tnc, e27]
            by_cases g6 : c (47 + w) = a3
            · rw [if_neg (fun h => h g6), if_pos g6, if_neg (fun h => h.2.2 g6), if_neg (fun h => h.2.2 g6), x_fail, bind_s]
              exact x_end (Qx_refl M) hR
            · rw [if_pos g6, if_neg g6, if_pos ⟨g5, by omega, g6⟩, if_pos ⟨g5, by omega, g6⟩, zlet_eq, x_answer, bind_s]
              exact x_end (Qx_upd w a3 (by unfold xcell; omega) (by decide) (Qx_refl M)) (Rh_keep (z := 27) (i := w) hI (j := 47 + w) (by omega) (by omega) hR (Rg_he (q := 23) (Ib_of hI) g1.2 a3 hg))
          · have ei : 47 + 6 * (1 : Int).toNat + w = 53 + w := rfl
            rw [ei]
            unfold f_X10_move_43 f_X10_move_64
            rw [if_neg (by decide), if_pos rfl, if_pos (by decide), if_pos (by omega), tnc, e28]
            by_cases g6 : c (53 + w) = a3
            · rw [if_neg (fun h => h g6), if_pos g6, if_neg (fun h => h.2.2 g6), if_neg (fun h => h.2.2 g6), x_fail, bind_s]
              exact x_end (Qx_refl M) hR
            · rw [if_pos g6, if_neg g6, if_pos ⟨g5, by omega, g6⟩, if_pos ⟨g5, by omega, g6⟩, zlet_eq, x_answer, bind_s]
              exact x_end (Qx_upd w a3 (by unfold xcell; omega) (by decide) (Qx_refl M)) (Rh_keep (z := 28) (i := w) hI (j := 53 + w) (by omega) (by omega) hR (Rg_she (q := 23) (Ib_of hI) g1.2 a3 hg))
        · rw [if_neg (by omega), if_neg (by omega), x_fail, bind_s, if_neg (fun h => g2 h.2.1), if_neg (fun h => g2 h.2.1), if_neg g2]
          exact x_end (Qx_refl M) hR
      · have hB : ¬ ((0 ≤ (w : Int) ∧ (w : Int) < c 2) ∧ (0 ≤ a3 ∧ a3 < c 0)) := fun h => g4 h.2
        have hA : ¬ (((0 ≤ (w : Int) ∧ (w : Int) < c 2) ∧ (0 ≤ a3 ∧ a3 < c 0)) ∧ (0 ≤ a2 ∧ a2 ≤ 1) ∧ ¬ c (47 + 6 * a2.toNat + w) = a3) := fun h => hB h.1
        rw [xroom_f hg g4, bind_s]
        simp only [if_neg hA, if_neg hB, i00, not_true_eq_false, if_false, x_fail, bind_s]
        exact x_end (Qx_refl M) hR
    · have hB : ¬ ((0 ≤ a1 ∧ a1 < c 2) ∧ (0 ≤ a3 ∧ a3 < c 0)) := fun h => g1 h.1
      have hA : ¬ (((0 ≤ a1 ∧ a1 < c 2) ∧ (0 ≤ a3 ∧ a3 < c 0)) ∧ (0 ≤ a2 ∧ a2 ≤ 1) ∧ ¬ c (47 + 6 * a2.toNat + a1.toNat) = a3) := fun h => hB h.1
      rw [xcoup_f hg g1, bind_s]
      simp only [if_neg hA, if_neg hB, i00, if_true, x_fail, bind_s]
      exact x_end (Qx_refl M) hR
  · intro P hI h9
    obtain ⟨M2, hM2, e5, q2, s2, hc, hf⟩ := MS_ok P
    rw [← e5] at hI
    have h1 := hI.2.2.1
    unfold f_X11_move f_X11_move_26
    rw [zlet_eq, zlet_eq, hM2, ← e5]
    by_cases g1 : 0 ≤ a1 ∧ a1 < M2 5 2
    · obtain ⟨w, rfl⟩ : ∃ w : Nat, a1 = (w : Int) := ⟨a1.toNat, by omega⟩
      rw [mcoup_t hI g1, bind_s]
      simp only [i10, if_false, tnc]
      by_cases g4 : 0 ≤ a3 ∧ a3 < M2 5 0
      · rw [mroom_t hI g4, bind_s]
        have g5 : (0 ≤ (w : Int) ∧ (w : Int) < M2 5 2) ∧ (0 ≤ a3 ∧ a3 < M2 5 0) := ⟨g1, g4⟩
        simp only [if_pos g5, i10, not_false_eq_true, if_true]
        by_cases g2 : 0 ≤ a2 ∧ a2 ≤ 1
        · rw [isin_t g2, bind_s]
          simp only [if_pos g2, i10, not_false_eq_true, if_true]
          have ej : o_add (o_add 47 (o_mul 6 a2)) (w : Int) = ((47 + 6 * a2.toNat + w : Nat) : Int) := by
            rw [o_mul_eq (by omega) (by omega), o_add_eq (x := 47) (by omega) (by omega), o_add_eq (by omega) (by omega)]; omega
          rw [ej, if_pos (by omega), zlet_eq, m_becomes (by omega), tnc]
          generalize hj : 47 + 6 * a2.toNat + w = j
          by_cases g6 : M2 5 j = a3
          · have hA : ¬ (((0 ≤ (w : Int) ∧ (w : Int) < M2 5 2) ∧ (0 ≤ a3 ∧ a3 < M2 5 0)) ∧ (0 ≤ a2 ∧ a2 ≤ 1) ∧ ¬ M2 5 j = a3) := fun h => h.2.2 g6
            rw [if_pos g6, bind_s]
            simp only [if_neg hA, if_pos g6, i00, if_true, m_refuse, bind_s]
            exact m_end q2 rfl
          · have hA : ((0 ≤ (w : Int) ∧ (w : Int) < M2 5 2) ∧ (0 ≤ a3 ∧ a3 < M2 5 0)) ∧ (0 ≤ a2 ∧ a2 ≤ 1) ∧ ¬ M2 5 j = a3 := ⟨g5, g2, g6⟩
            rw [if_neg g6, bind_s]
            simp only [if_pos hA, if_neg g6, i10, if_false]
            exact m_fin (Qm_cell a3 (by unfold mcell; omega) (by decide) q2) (am5 M2 j a3) (by rw [am_upd_cell (by decide)]; exact s2)
        · have hA : ¬ (((0 ≤ (w : Int) ∧ (w : Int) < M2 5 2) ∧ (0 ≤ a3 ∧ a3 < M2 5 0)) ∧ (0 ≤ a2 ∧ a2 ≤ 1) ∧ ¬ M2 5 (47 + 6 * a2.toNat + w) = a3) := fun h => g2 h.2.1
          rw [isin_f g2, bind_s]
          simp only [if_neg hA, if_neg g2, i00, not_true_eq_false, if_false, m_refuse, bind_s]
          exact m_end q2 rfl
      · have hB : ¬ ((0 ≤ (w : Int) ∧ (w : Int) < M2 5 2) ∧ (0 ≤ a3 ∧ a3 < M2 5 0)) := fun h => g4 h.2
        have hA : ¬ (((0 ≤ (w : Int) ∧ (w : Int) < M2 5 2) ∧ (0 ≤ a3 ∧ a3 < M2 5 0)) ∧ (0 ≤ a2 ∧ a2 ≤ 1) ∧ ¬ M2 5 (47 + 6 * a2.toNat + w) = a3) := fun h => hB h.1
        rw [mroom_f hI g4, bind_s]
        simp only [if_neg hA, if_neg hB, i00, not_true_eq_false, if_false, m_refuse, bind_s]
        exact m_end q2 rfl
    · have hB : ¬ ((0 ≤ a1 ∧ a1 < M2 5 2) ∧ (0 ≤ a3 ∧ a3 < M2 5 0)) := fun h => g1 h.1
      have hA : ¬ (((0 ≤ a1 ∧ a1 < M2 5 2) ∧ (0 ≤ a3 ∧ a3 < M2 5 0)) ∧ (0 ≤ a2 ∧ a2 ≤ 1) ∧ ¬ M2 5 (47 + 6 * a2.toNat + a1.toNat) = a3) := fun h => hB h.1
      rw [mcoup_f hI g1, bind_s]
      simp only [if_neg hA, if_neg hB, i00, if_true, m_refuse, bind_s]
      exact m_end q2 rfl
  · intro c hI h9
    have h1 := hI.2.2.1
    by_cases g : ((0 ≤ a1 ∧ a1 < c 2) ∧ (0 ≤ a3 ∧ a3 < c 0)) ∧ (0 ≤ a2 ∧ a2 ≤ 1) ∧ ¬ c (47 + 6 * a2.toNat + a1.toNat) = a3
    · simp only [if_pos g]
      exact ⟨Ic_who hI (by omega) g.1.2, keep_cset _ (by omega) h9⟩
    · simp only [if_neg g]
      exact keep_c hI h9
