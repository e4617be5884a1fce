/-! MANY, WIRE, COUPLE and what is asked of lengths -/
theorem bits_val {c : Nat → Int} {B : Int} {n row : Nat} (h : bits B n (fun w => c (row + w))) : B = (setB (rowB c row) n : Nat) := bits_set h
theorem x_whole {c : Nat → Int} {q : Nat} {M : AM} (h : Rg c q M) : M q 7 = (wholeN c : Nat) := bits_val h.2.2.2.1
theorem x_holds {c : Nat → Int} {q : Nat} {M : AM} (h : Rg c q M) : M q 8 = (holdsN c : Nat) := bits_val h.2.2.2.2
def manyF (c : Nat → Int) (a : Int) : Int := if a < 7 then c a.toNat else if a = 7 then ((wholeN c : Nat) : Int) else if a = 8 then ((holdsN c : Nat) : Int) else if a = 9 then ((rungN c : Nat) : Int) else loveN c
theorem a_many (a1 : Int) : Alike (f_X10_many a1) (f_X11_many a1) := by
  refine alike_q (fun c => if 0 ≤ a1 ∧ a1 ≤ 10 then manyF c a1 else -1) (fun c => if 0 ≤ a1 ∧ a1 ≤ 10 then 0 else 5) ?_ ?_
  · intro c M hI h9 hR
    have hg := (Rh_iff.mp hR).1
    obtain ⟨r0, r1, r2, r3, r4, r5, r6⟩ := hg.1
    have h6 := hI.2.2.2.2.2.2.1
    have hend : ∀ v, ∃ N', (some (v, am_upd M 15 0 0) : Option (Int × AM)) = some (v, N') ∧ Qx M N' ∧ Rh c 23 N' ∧ N' 15 0 = 0 := fun v => x_end (Qx_refl M) hR
    unfold f_X10_many
    simp only [r0, r1, r2, r3, r4, r5, r6, x_whole hg, x_holds hg, x_answer, x_fail, bind_s]
    by_cases g : 0 ≤ a1 ∧ a1 ≤ 10
    · simp only [if_pos g]
      rcases (by omega : a1 = 0 ∨ a1 = 1 ∨ a1 = 2 ∨ a1 = 3 ∨ a1 = 4 ∨ a1 = 5 ∨ a1 = 6 ∨ a1 = 7 ∨ a1 = 8 ∨ a1 = 9 ∨ a1 = 10) with rfl | rfl | rfl | rfl | rfl | rfl | rfl | rfl | rfl | rfl | rfl
      · exact hend _
      · exact hend _
      · exact hend _
      · exact hend _
      · exact hend _
      · exact hend _
      · have e : (if c 6 = 0 then f_X10_many_148 0 M else f_X10_many_148 1 M) = some (c 6, am_upd M 15 0 0) := by
          unfold f_X10_many_148
          rw [x_answer, x_answer]
          rcases h6 with h6 | h6
          · rw [if_pos h6, h6]; rfl
          · rw [if_neg (by omega), h6]; rfl
        have e2 : manyF c 6 = c 6 := rfl
        rw [e2]
        refine Eq.mpr ?_ (hend (c 6))
        rw [← e]
        rfl
      · exact hend _
      · exact hend _
      · obtain ⟨⟨v, N⟩, e, h1, hN⟩ := x_rungSet hI hR
        replace h1 : v = (rungN c : Nat) := h1
        replace hN : Hm c 23 M N := hN
        simp only [show ¬ (9 : Int) = 0 by decide, show ¬ (9 : Int) = 1 by decide, show ¬ (9 : Int) = 2 by decide, show ¬ (9 : Int) = 3 by decide, show ¬ (9 : Int) = 4 by decide, show ¬ (9 : Int) = 5 by decide, show ¬ (9 : Int) = 6 by decide, show ¬ (9 : Int) = 7 by decide, show ¬ (9 : Int) = 8 by decide, if_false, if_true]
        rw [e, bind_s]
        have e2 : manyF c 9 = v := h1.symm
        rw [e2]
        exact x_end (Qx_Hm hN) hN.1
      · simp only [show ¬ (10 : Int) = 0 by decide, show ¬ (10 : Int) = 1 by decide, show ¬ (10 : Int) = 2 by decide, show ¬ (10 : Int) = 3 by decide, show ¬ (10 : Int) = 4 by decide, show ¬ (10 : Int) = 5 by decide, show ¬ (10 : Int) = 6 by decide, show ¬ (10 : Int) = 7 by decide, show ¬ (10 : Int) = 8 by decide, show ¬ (10 : Int) = 9 by decide, if_false, if_true]
        rw [x_loveTogether hI hg, bind_s]
        exact hend _
    · simp only [if_neg g]
      rw [if_neg (by omega), if_neg (by omega), if_neg (by omega), if_neg (by omega), if_neg (by omega), if_neg (by omega), if_neg (by omega), if_neg (by omega), if_neg (by omega), if_neg (by omega), if_neg (by omega)]
      exact x_end (Qx_refl M) hR
  · intro P hI h9
    obtain ⟨M2, hM2, e5, q2, s2, hc, hf⟩ := MS_ok P
    rw [← e5] at hI
    unfold f_X11_many
    rw [zlet_eq, zlet_eq, hM2, ← e5]
    by_cases g : 0 ≤ a1 ∧ a1 ≤ 10
    · rw [isin_t g, bind_s]
      simp only [if_pos g, i10, not_false_eq_true, if_true]
      unfold manyF
      by_cases g7 : a1 < 7
      · rw [if_neg (by omega), if_pos (by omega), if_pos g7]
        exact m_fin q2 rfl s2
      · rw [if_pos (by omega), if_neg g7]
        by_cases h7 : a1 = 7
        · rw [if_neg (fun h => h h7), if_pos h7, tn1, m_whole hI, bind_s]
          exact m_fin q2 rfl s2
        · rw [if_pos h7, if_neg h7]
          by_cases h8 : a1 = 8
          · rw [if_neg (fun h => h h8), if_pos h8, tn2, m_holds hI, bind_s]
            exact m_fin q2 rfl s2
          · rw [if_pos h8, if_neg h8]
            by_cases h10 : a1 = 9
            · rw [if_neg (fun h => h h10), if_pos h10, m_rung hI, bind_s]
              exact m_fin (Qm_trans q2 (Qm_LF M2)) (LF5 M2) (LF_s s2)
            · rw [if_pos h10, if_neg h10, m_allLove hI, bind_s]
              exact m_fin q2 rfl s2
    · rw [isin_f g, bind_s]
      simp only [if_neg g, i00, not_true_eq_false, if_false, m_refuse, bind_s]
      exact m_end q2 rfl
theorem a_wire (a1 a2 : Int) : Alike (f_X10_wire a1 a2) (f_X11_wire a1 a2) := by
  refine alike_q (fun c => if 0 ≤ a1 ∧ a1 < c 1 then (if 0 ≤ a2 ∧ a2 ≤ 3 then c (7 + 10 * a2.toNat + a1.toNat) else -1) else -1) (fun c => if 0 ≤ a1 ∧ a1 < c 1 then (if 0 ≤ a2 ∧ a2 ≤ 3 then 0 else 5) else 2) ?_ ?_
  · intro c M hI h9 hR
    have h1 := hI.2.1
    have hg := (Rh_iff.mp hR).1
    unfold f_X10_wire f_X10_wire_107
    by_cases g1 : 0 ≤ a1 ∧ a1 < c 1
    · obtain ⟨w, rfl⟩ : ∃ w : Nat, a1 = (w : Int) := ⟨a1.toNat, by omega⟩
      obtain ⟨w1, w2, w3⟩ := hg.2.1 w g1.2
      have w4 := (Ic_w hI g1.2).2.2.2
      rw [xwire_t hg g1, bind_s]
      simp only [if_pos g1, i10, not_false_eq_true, if_true, tnc]
      have hw10 : 0 ≤ (w : Int) ∧ (w : Int) < 10 := by omega
      have w1' : M 24 w = c (7 + w) := w1
      have w2' : M 25 w = c (17 + w) := w2
      have w3' : M 26 w = c (27 + w) := w3
      simp only [if_pos hw10, w1', w2', w3', x_answer, x_fail, bind_s]
      have hend : ∀ v, ∃ N', (some (v, am_upd M 15 0 0) : Option (Int × AM)) = some (v, N') ∧ Qx M N' ∧ Rh c 23 N' ∧ N' 15 0 = 0 := fun v => x_end (Qx_refl M) hR
      by_cases g2 : 0 ≤ a2 ∧ a2 ≤ 3
      · simp only [if_pos g2]
        rcases (by omega : a2 = 0 ∨ a2 = 1 ∨ a2 = 2 ∨ a2 = 3) with rfl | rfl | rfl | rfl
        · exact hend _
        · exact hend _
        · exact hend _
        · rw [if_neg (by decide), if_neg (by decide), if_neg (by decide), if_pos rfl, x_isWhole (Ib_of hI) hg g1.2, bind_s]
          have e2 : c (7 + 10 * (3 : Int).toNat + w) = c (37 + w) := rfl
          rw [e2]
          rcases w4 with h | h
          · rw [h]; exact hend 0
          · rw [h]; exact hend 1
      · simp only [if_neg g2]
        rw [if_neg (by omega), if_neg (by omega), if_neg (by omega), if_neg (by omega)]
        exact x_end (Qx_refl M) hR
    · rw [xwire_f hg g1, bind_s]
      simp only [if_neg g1, i00, not_true_eq_false, if_false, x_fail, bind_s]
      exact x_end (Qx_refl M) hR
  · intro P hI h9
    obtain ⟨M2, hM2, e5, q2, s2, hc, hf⟩ := MS_ok P
    rw [← e5] at hI
    have h1 := hI.2.1
    unfold f_X11_wire
    rw [zlet_eq, zlet_eq, hM2, ← e5]
    by_cases g1 : 0 ≤ a1 ∧ a1 < M2 5 1
    · rw [mwire_t hI g1, bind_s]
      simp only [if_pos g1, i10, not_false_eq_true, if_true]
      by_cases g2 : 0 ≤ a2 ∧ a2 ≤ 3
      · rw [isin_t g2, bind_s]
        simp only [if_pos g2, i10, if_false]
        rw [o_mul_eq (by omega) (by omega), o_add_eq (x := 7) (by omega) (by omega), o_add_eq (by omega) (by omega), if_pos (by omega)]
        have e : (7 + 10 * a2 + a1).toNat = 7 + 10 * a2.toNat + a1.toNat := by omega
        rw [e]
        exact m_fin q2 rfl s2
      · rw [isin_f g2, bind_s]
        simp only [if_neg g2, i00, if_true, m_refuse, bind_s]
        exact m_end q2 rfl
    · rw [mwire_f hI g1, bind_s]
      simp only [if_neg g1, i00, not_true_eq_false, if_false, m_refuse, bind_s]
      exact m_end q2 rfl
def coupF (c : Nat → Int) (k : Nat) (a : Int) : Int := if a = 4 then (if rungB c k then 1 else 0) else c (47 + 6 * (if a < 4 then a.toNat else a.toNat - 1) + k)
theorem a_couple (a1 a2 : Int) : Alike (f_X10_couple a1 a2) (f_X11_couple a1 a2) := by
  refine alike_q (fun c => if 0 ≤ a1 ∧ a1 < c 2 then (if 0 ≤ a2 ∧ a2 ≤ 6 then coupF c a1.toNat a2 else -1) else -1) (fun c => if 0 ≤ a1 ∧ a1 < c 2 then (if 0 ≤ a2 ∧ a2 ≤ 6 then 0 else 5) else 2) ?_ ?_
  · intro c M hI h9 hR
    have h1 := hI.2.2.1
    have hg := (Rh_iff.mp hR).1
    unfold f_X10_couple f_X10_couple_119 f_X10_couple_140
    by_cases g1 : 0 ≤ a1 ∧ a1 < c 2
    · obtain ⟨k, rfl⟩ : ∃ w : Nat, a1 = (w : Int) := ⟨a1.toNat, by omega⟩
      obtain ⟨k1, k2, k3, k4, k5⟩ := hg.2.2.1 k g1.2
      have k6 := (Ic_k hI g1.2).2.2.2.1
      rw [xcoup_t hg g1, bind_s]
      simp only [if_pos g1, i10, not_false_eq_true, if_true, tnc]
      have hk6 : 0 ≤ (k : Int) ∧ (k : Int) < 6 := by omega
      have k1' : M 27 k = c (47 + k) := k1
      have k2' : M 28 k = c (53 + k) := k2
      have k3' : M 29 k = c (59 + k) := k3
      have k4' : M 30 k = c (71 + k) := k4
      have k5' : M 31 k = c (77 + k) := k5
      simp only [if_pos hk6, k1', k2', k3', k4', k5', x_answer, x_fail, bind_s]
      have hend : ∀ v, ∃ N', (some (v, am_upd M 15 0 0) : Option (Int × AM)) = some (v, N') ∧ Qx M N' ∧ Rh c 23 N' ∧ N' 15 0 = 0 := fun v => x_end (Qx_refl M) hR
      by_cases g2 : 0 ≤ a2 ∧ a2 ≤ 6
      · simp only [if_pos g2]
        rcases (by omega : a2 = 0 ∨ a2 = 1 ∨ a2 = 2 ∨ a2 = 3 ∨ a2 = 4 ∨ a2 = 5 ∨ a2 = 6) with rfl | rfl | rfl | rfl | rfl | rfl | rfl
        · exact hend _
        · exact hend _
        · exact hend _
        · rw [if_neg (by decide), if_neg (by decide), if_neg (by decide), if_pos rfl, x_isHolding (Ib_of hI) hg g1.2, bind_s]
          have e2 : coupF c k 3 = c (65 + k) := rfl
          rw [e2]
          rcases k6 with h | h
          · rw [h]; exact hend 0
          · rw [h]; exact hend 1
        · obtain ⟨N, e, hN⟩ := x_isRung hI hR g1.2
          rw [if_neg (by decide), if_neg (by decide), if_neg (by decide), if_neg (by decide), if_pos rfl, e, bind_s]
          have e2 : coupF c k 4 = if rungB c k then 1 else 0 := rfl
          rw [e2]
          cases rungB c k
          · exact x_end (Qx_Hm hN) hN.1
          · exact x_end (Qx_Hm hN) hN.1
        · exact hend _
        · exact hend _
      · simp only [if_neg g2]
        rw [if_neg (by omega), if_neg (by omega), if_neg (by omega), if_neg (by omega), if_neg (by omega), if_neg (by omega), if_neg (by omega)]
        exact x_end (Qx_refl M) hR
    · rw [xcoup_f hg g1, bind_s]
      simp only [if_neg g1, i00, not_true_eq_false, if_false, x_fail, bind_s]
      exact x_end (Qx_refl M) hR
  · intro P hI h9
    obtain ⟨M2, hM2, e5, q2, s2, hc, hf⟩ := MS_ok P
    rw [← e5] at hI
    have h1 := hI.2.2.1
    unfold f_X11_couple
    rw [zlet_eq, zlet_eq, hM2, ← e5]
    by_cases g1 : 0 ≤ a1 ∧ a1 < M2 5 2
    · rw [mcoup_t hI g1, bind_s]
      simp only [if_pos g1, i10, not_false_eq_true, if_true]
      by_cases g2 : 0 ≤ a2 ∧ a2 ≤ 6
      · rw [isin_t g2, bind_s]
        simp only [if_pos g2, i10, not_false_eq_true, if_true]
        unfold coupF
        by_cases g3 : a2 = 4
        · rw [if_neg (fun h => h g3), if_pos g3, m_rung hI, bind_s]
          obtain ⟨k, rfl⟩ : ∃ w : Nat, a1 = (w : Int) := ⟨a1.toNat, by omega⟩
          have hr : rungN (M2 5) < 2 ^ 10 := setB_le _ (by omega)
          dsimp only
          rw [m_has (by omega) (by omega), bind_s]
          have hb : (rungN (M2 5)).testBit k = rungB (M2 5) k := by
            unfold rungN
            rw [setB_bit]
            have : k < (M2 5 2).toNat := by omega
            simp [this]
          rw [hb, tnc]
          cases rungB (M2 5) k
          · exact m_fin (Qm_trans q2 (Qm_LF M2)) (LF5 M2) (LF_s s2)
          · exact m_fin (Qm_trans q2 (Qm_LF M2)) (LF5 M2) (LF_s s2)
        · rw [if_pos g3, if_neg g3]
          by_cases g4 : a2 < 4
          · rw [if_neg (by omega), if_pos g4, o_mul_eq (by omega) (by omega), o_add_eq (x := 47) (by omega) (by omega), o_add_eq (by omega) (by omega), if_pos (by omega)]
            have e : (47 + 6 * a2 + a1).toNat = 47 + 6 * a2.toNat + a1.toNat := by omega
            rw [e]
            exact m_fin q2 rfl s2
          · rw [if_pos (by omega), if_neg g4, o_sub_eq (by omega) (by omega), o_mul_eq (by omega) (by omega), o_add_eq (x := 47) (by omega) (by omega), o_add_eq (by omega) (by omega), if_pos (by omega)]
            have e : (47 + 6 * (a2 - 1) + a1).toNat = 47 + 6 * (a2.toNat - 1) + a1.toNat := by omega
            rw [e]
            exact m_fin q2 rfl s2
      · rw [isin_f g2, bind_s]
        simp only [if_neg g2, i00, not_true_eq_false, if_false, m_refuse, bind_s]
        exact m_end q2 rfl
    · rw [mcoup_f hI g1, bind_s]
      simp only [if_neg g1, i00, not_true_eq_false, if_false, m_refuse, bind_s]
      exact m_end q2 rfl
