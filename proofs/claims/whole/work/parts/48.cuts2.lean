theorem x_fewestCuts {c : Nat → Int} {M : AM} (hI : Ic c) (hR : Rh c 23 M) (a1 a2 : Int) : Wp (f_X10_fewestCuts a1 a2 M) (fun r =>
    (¬ ((0 ≤ a1 ∧ a1 < c 0) ∧ (0 ≤ a2 ∧ a2 < c 0)) ∧ r.1 = -1 ∧ r.2 = am_upd M 15 0 2) ∨
    (((0 ≤ a1 ∧ a1 < c 0) ∧ (0 ≤ a2 ∧ a2 < c 0)) ∧ a1 = a2 ∧ r.1 = -1 ∧ r.2 = am_upd M 15 0 5) ∨
    (((0 ≤ a1 ∧ a1 < c 0) ∧ (0 ≤ a2 ∧ a2 < c 0)) ∧ ¬ a1 = a2 ∧ r.1 = ((cutF c a1 a2 : Nat) : Int) ∧ Eo [64] M r.2)) := by
  have hg := (Rh_iff.mp hR).1
  unfold f_X10_fewestCuts f_X10_fewestCuts_22
  by_cases g1 : 0 ≤ a1 ∧ a1 < c 0
  · rw [xroom_t hg g1, bind_s]
    simp only [i10, if_false]
    by_cases g2 : 0 ≤ a2 ∧ a2 < c 0
    · rw [xroom_t hg g2, bind_s]
      simp only [i10, not_false_eq_true, if_true]
      by_cases g3 : a1 = a2
      · rw [if_neg (fun h => h g3), x_fail, bind_s]
        exact wp_some (Or.inr (Or.inl ⟨⟨g1, g2⟩, g3, rfl, rfl⟩))
      · rw [if_pos g3]
        refine wp_bind (x_leastCuts hI hg g1 g2 g3) ?_
        rintro ⟨v, N⟩ ⟨hv, hE⟩
        exact wp_some (Or.inr (Or.inr ⟨⟨g1, g2⟩, g3, hv, hE⟩))
    · rw [xroom_f hg g2, bind_s]
      simp only [i00, not_true_eq_false, if_false, x_fail, bind_s]
      exact wp_some (Or.inl ⟨fun h => g2 h.2, rfl, rfl⟩)
  · rw [xroom_f hg g1, bind_s]
    simp only [i00, if_true, x_fail, bind_s]
    exact wp_some (Or.inl ⟨fun h => g1 h.1, rfl, rfl⟩)
theorem m_why {M : AM} (hI : Ic (M 5)) (a1 a2 : Int) : f_X11_whyNoCuts a1 a2 M = some (if (0 ≤ a1 ∧ a1 < M 5 0) ∧ (0 ≤ a2 ∧ a2 < M 5 0) then (if a1 = a2 then 5 else 0) else 2, M) := by
  unfold f_X11_whyNoCuts
  by_cases g1 : 0 ≤ a1 ∧ a1 < M 5 0
  · rw [mroom_t hI g1, bind_s]
    simp only [i10, if_false]
    by_cases g2 : 0 ≤ a2 ∧ a2 < M 5 0
    · have g : (0 ≤ a1 ∧ a1 < M 5 0) ∧ (0 ≤ a2 ∧ a2 < M 5 0) := ⟨g1, g2⟩
      rw [mroom_t hI g2, bind_s]
      simp only [i10, not_false_eq_true, if_true, if_pos g]
      by_cases g3 : a1 = a2
      · rw [if_neg (fun h => h g3), if_pos g3]
      · rw [if_pos g3, if_neg g3]
    · have g : ¬ ((0 ≤ a1 ∧ a1 < M 5 0) ∧ (0 ≤ a2 ∧ a2 < M 5 0)) := fun h => g2 h.2
      rw [mroom_f hI g2, bind_s]
      simp only [i00, not_true_eq_false, if_false, if_neg g]
  · have g : ¬ ((0 ≤ a1 ∧ a1 < M 5 0) ∧ (0 ≤ a2 ∧ a2 < M 5 0)) := fun h => g1 h.1
    rw [mroom_f hI g1, bind_s]
    simp only [i00, if_true, if_neg g]
theorem cutF_b {c : Nat → Int} (hI : Ic c) {p q : Int} (hp : 0 ≤ p ∧ p < c 0) (hq : 0 ≤ q ∧ q < c 0) (hne : p ≠ q) : cutF c p q < 1024 := lt1024 (n := (c 1).toNat) (by have := hI.2.1; omega) (cutF_L hI hp hq hne).2.1
theorem M1_ok (P : AM) : (am_upd P 0 1 0) 5 = P 5 ∧ Qm P (am_upd P 0 1 0) := ⟨am_upd_cell (by decide), Qm_f P 0 (by unfold mscrap; omega)⟩
theorem a_cuts (a1 a2 : Int) : Alike (f_X10_cuts a1 a2) (f_X11_cuts a1 a2) := by
  refine alike_q (fun c => if (0 ≤ a1 ∧ a1 < c 0) ∧ (0 ≤ a2 ∧ a2 < c 0) then (if a1 = a2 then -1 else ((pc (cutF c a1 a2) : Nat) : Int)) else -1) (fun c => if (0 ≤ a1 ∧ a1 < c 0) ∧ (0 ≤ a2 ∧ a2 < c 0) then (if a1 = a2 then 5 else 0) else 2) ?_ ?_
  · intro c M hI h9 hR
    obtain ⟨⟨v, N⟩, e, h⟩ := x_fewestCuts hI hR a1 a2
    unfold f_X10_cuts
    rw [e, bind_s]
    dsimp only
    rcases h with ⟨g, hv, hN⟩ | ⟨g, g2, hv, hN⟩ | ⟨g, g2, hv, hE⟩
    · replace hv : v = -1 := hv
      replace hN : N = _ := hN
      rw [if_neg (fun h => h hv), if_neg g, if_neg g, hN]
      exact x_end (Qx_refl M) hR
    · replace hv : v = -1 := hv
      replace hN : N = _ := hN
      rw [if_neg (fun h => h hv), if_pos g, if_pos g, if_pos g2, if_pos g2, hN]
      exact x_end (Qx_refl M) hR
    · replace hv : v = _ := hv
      replace hE : Eo [64] M N := hE
      rw [if_pos (by omega), if_pos g, if_pos g, if_neg g2, if_neg g2, hv, x_bitCount (cutF_b hI g.1 g.2 g2), bind_s, x_answer, bind_s]
      exact x_end (Qx_64 hE) (Rh_64 hE hR)
  · intro P hI h9
    obtain ⟨e5, q1⟩ := M1_ok P
    unfold f_X11_cuts
    rw [zlet_eq]
    generalize am_upd P 0 1 0 = M1 at e5 q1
    rw [← e5] at hI ⊢
    rw [m_why hI, bind_s, zlet_eq]
    dsimp only
    by_cases g : (0 ≤ a1 ∧ a1 < M1 5 0) ∧ (0 ≤ a2 ∧ a2 < M1 5 0)
    · simp only [if_pos g]
      by_cases g2 : a1 = a2
      · simp only [if_pos g2]
        rw [if_neg (by rw [am_upd_self]; omega)]
        exact m_end q1 rfl
      · simp only [if_neg g2]
        rw [if_pos (by rw [am_upd_self]; omega)]
        generalize hM2 : am_upd M1 0 0 0 = M2
        have e52 : M2 5 = M1 5 := by rw [← hM2]; exact am_upd_cell (by decide)
        have s2 : M2 0 0 = 0 := by rw [← hM2]; exact am_upd_self _ _ _ _
        have q2 : Qm P M2 := by rw [← hM2]; exact Qm_trans q1 (Qm_st _ _)
        rw [← e52] at hI g ⊢
        obtain ⟨⟨v, N⟩, e, hv, h5, hE⟩ := m_cutting hI g.1 g.2 g2
        replace hv : v = _ := hv
        replace h5 : N 5 = M2 5 := h5
        replace hE : Eo [5, 6, 9] M2 N := hE
        have hN0 : N 0 = M2 0 := hE 0 (by simp)
        rw [e, bind_s]
        dsimp only
        rw [hv, m_sizeOf' (cutF_b hI g.1 g.2 g2), bind_s]
        exact m_fin (Qm_trans q2 (Eo569_Qm hE)) h5 (by show N 0 0 = 0; rw [hN0]; exact s2)
    · simp only [if_neg g]
      rw [if_neg (by rw [am_upd_self]; omega)]
      exact m_end q1 rfl
theorem a_cutSet (a1 a2 : Int) : Alike (f_X10_cutSet a1 a2) (f_X11_cutSet a1 a2) := by
  refine alike_q (fun c => if (0 ≤ a1 ∧ a1 < c 0) ∧ (0 ≤ a2 ∧ a2 < c 0) then (if a1 = a2 then -1 else ((cutF c a1 a2 : Nat) : Int)) else -1) (fun c => if (0 ≤ a1 ∧ a1 < c 0) ∧ (0 ≤ a2 ∧ a2 < c 0) then (if a1 = a2 then 5 else 0) else 2) ?_ ?_
  · intro c M hI h9 hR
    obtain ⟨⟨v, N⟩, e, h⟩ := x_fewestCuts hI hR a1 a2
    unfold f_X10_cutSet
    rw [e, bind_s]
    dsimp only
    rcases h with ⟨g, hv, hN⟩ | ⟨g, g2, hv, hN⟩ | ⟨g, g2, hv, hE⟩
    · replace hv : v = -1 := hv
      replace hN : N = _ := hN
      rw [if_neg (fun h => h hv), if_neg g, if_neg g, hN]
      exact x_end (Qx_refl M) hR
    · replace hv : v = -1 := hv
      replace hN : N = _ := hN
      rw [if_neg (fun h => h hv), if_pos g, if_pos g, if_pos g2, if_pos g2, hN]
      exact x_end (Qx_refl M) hR
    · replace hv : v = _ := hv
      replace hE : Eo [64] M N := hE
      rw [if_pos (by omega), if_pos g, if_pos g, if_neg g2, if_neg g2, hv, x_answer, bind_s]
      exact x_end (Qx_64 hE) (Rh_64 hE hR)
  · intro P hI h9
    obtain ⟨e5, q1⟩ := M1_ok P
    unfold f_X11_cutSet
    rw [zlet_eq]
    generalize am_upd P 0 1 0 = M1 at e5 q1
    rw [← e5] at hI ⊢
    rw [m_why hI, bind_s, zlet_eq]
    dsimp only
    by_cases g : (0 ≤ a1 ∧ a1 < M1 5 0) ∧ (0 ≤ a2 ∧ a2 < M1 5 0)
    · simp only [if_pos g]
      by_cases g2 : a1 = a2
      · simp only [if_pos g2]
        rw [if_neg (by rw [am_upd_self]; omega)]
        exact m_end q1 rfl
      · simp only [if_neg g2]
        rw [if_pos (by rw [am_upd_self]; omega)]
        generalize hM2 : am_upd M1 0 0 0 = M2
        have e52 : M2 5 = M1 5 := by rw [← hM2]; exact am_upd_cell (by decide)
        have s2 : M2 0 0 = 0 := by rw [← hM2]; exact am_upd_self _ _ _ _
        have q2 : Qm P M2 := by rw [← hM2]; exact Qm_trans q1 (Qm_st _ _)
        rw [← e52] at hI g ⊢
        obtain ⟨⟨v, N⟩, e, hv, h5, hE⟩ := m_cutting hI g.1 g.2 g2
        replace hv : v = _ := hv
        replace h5 : N 5 = M2 5 := h5
        replace hE : Eo [5, 6, 9] M2 N := hE
        have hN0 : N 0 = M2 0 := hE 0 (by simp)
        rw [e, bind_s, hv]
        exact m_fin (Qm_trans q2 (Eo569_Qm hE)) h5 (by show N 0 0 = 0; rw [hN0]; exact s2)
    · simp only [if_neg g]
      rw [if_neg (by rw [am_upd_self]; omega)]
      exact m_end q1 rfl
/-! HANGS -/
def cutC (c : Nat → Int) (w : Nat) : Nat → Int := cset c (37 + w) 0
theorem Ic_cutC {c : Nat → Int} (hI : Ic c) {w : Nat} (hw : w < 10) : Ic (cutC c w) := Ic_whole hI hw (Or.inl rfl)
theorem rung_cutC {c : Nat → Int} (hI : Ic c) {w : Nat} (hw : (w : Int) < c 1) {k : Nat} (hk : k < 6) : rungB (cW c (dif (wholeN c) (2 ^ w)) 0) k = rungB (cutC c w) k := by
  have h1 := hI.2.1
  refine rung_congr ?_ ?_ ?_ (fun x hx => ⟨?_, ?_, ?_, ?_⟩) (fun j h1 h2 => ?_) hk
  · rw [cW_lo c _ _ (by omega)]; exact (cset_ne (by omega)).symm
  · rw [cW_lo c _ _ (by omega)]; exact (cset_ne (by omega)).symm
  · rw [cW_lo c _ _ (by omega)]; exact (cset_ne (by omega)).symm
  · rw [show cutC c w 1 = c 1 from cset_ne (by omega)] at hx
    rw [cW_lo c _ _ (by omega)]; exact (cset_ne (by omega)).symm
  · rw [show cutC c w 1 = c 1 from cset_ne (by omega)] at hx
    rw [cW_lo c _ _ (by omega)]; exact (cset_ne (by omega)).symm
  · rw [show cutC c w 1 = c 1 from cset_ne (by omega)] at hx
    rw [cW_md c _ _ (by omega), Nat.zero_testBit]
    exact (cset_ne (by omega)).symm
  · rw [show cutC c w 1 = c 1 from cset_ne (by omega)] at hx
    have hIw := Ic_w hI hx
    rw [cW_wh c _ _ (by omega), dif_bit, whole_bit (by omega), Nat.testBit_two_pow]
    by_cases e : w = x
    · subst e
      have e2 : cutC c w (37 + w) = 0 := cset_eq _ _ _
      rw [e2]
      simp
    · have e2 : cutC c w (37 + x) = c (37 + x) := cset_ne (by omega)
      rw [e2]
      by_cases g : c (37 + x) = 1
      · simp [g, e]
      · have g2 : c (37 + x) = 0 := by omega
        simp [g2]
  · rw [cW_lo c _ _ (by omega)]; exact (cset_ne (by omega)).symm
theorem x_hangsOn {c : Nat → Int} {M : AM} (hI : Ic c) (hR : Rg c 23 M) {k w : Nat} (hk : (k : Int) < c 2) (hw : (w : Int) < c 1) : ∃ N, f_X7_hangsOn (k : Int) (w : Int) M = some (if rungB (cutC c w) k then 0 else 1, N) ∧ Eo [64] M N := by
  have h1 := hI.2.1
  have h2 := hI.2.2.1
  have hwn : wholeN c < 1024 := lt1024 (n := (c 1).toNat) (by omega) (setB_lt _ _)
  have hpw : 2 ^ w < 1024 := Nat.lt_of_lt_of_le (Nat.pow_lt_pow_right (by omega) (show w < 10 by omega)) (by decide)
  have hor : o_and (M 23 7) (o_xor (o_shl 1 (w : Int)) (-1)) = ((dif (wholeN c) (2 ^ w) : Nat) : Int) := by rw [x_whole hR, o_shl_one' (by omega), o_dif hwn hpw]
  unfold f_X7_hangsOn
  obtain ⟨N, e, hE⟩ := x_carryK hI hR (dif_lt (n := 10) (b := 2 ^ w) hwn) (show 0 < 1024 by omega) hk
  rw [show ((0 : Nat) : Int) = 0 from rfl, rung_cutC hI hw (by omega)] at e
  rw [if_pos (by omega), tnc, hor, e, bind_s]
  dsimp only
  refine ⟨N, ?_, hE⟩
  cases rungB (cutC c w) k
  · simp only [Bool.false_eq_true, if_false, not_true_eq_false]
  · simp only [if_true, i10, not_false_eq_true]
def hangB (c : Nat → Int) (k w : Nat) : Bool := decide (c (37 + w) = 1) && !rungB (cutC c w) k
theorem x_hangSet {c : Nat → Int} {M : AM} (hI : Ic c) (hR : Rg c 23 M) {k : Nat} (hk : (k : Int) < c 2) : Wp (f_X7_hangSet (k : Int) M) (fun r => r.1 = ((setB (hangB c k) (c 1).toNat : Nat) : Int) ∧ Eo [64] M r.2) := by
  have h1 := hI.2.1
  unfold f_X7_hangSet
  refine up_loopP0 (fun n i (s : Int × AM) => f_X7_hangSet_5 n (k : Int) s.1 (i : Int) s.2) (fun i s => s.1 = ((setB (hangB c k) i : Nat) : Int) ∧ Eo [64] M s.2) _ (c 1).toNat (0, M) ⟨rfl, Eo_refl _ _⟩ ?_ ?_ (by omega)
  · rintro n i ⟨s, N⟩ hi ⟨h3, hE⟩
    replace h3 : s = _ := h3
    replace hE : Eo [64] M N := hE
    have hRN := Rg_64 hE hR
    have e3 : N 23 3 = c 1 := hRN.1.2.2.2.1
    left
    show ∃ s2 : Int × AM, _ ∧ f_X7_hangSet_5 (n + 1) (k : Int) s (i : Int) N = _
    simp only [f_X7_hangSet_5]
    rw [if_neg (by omega), x_isWhole (Ib_of hI) hRN (by omega), bind_s, o_succ (by omega)]
    by_cases g : c (37 + i) = 1
    · simp only [if_pos g, i10, if_false]
      obtain ⟨N2, e, hE2⟩ := x_hangsOn hI hRN hk (w := i) (by omega)
      rw [e, bind_s]
      dsimp only
      cases g2 : rungB (cutC c i) k
      · simp only [Bool.false_eq_true, if_false, i10]
        exact ⟨(o_or s (o_shl 1 (i : Int)), N2), ⟨by show o_or s _ = _; rw [h3, o_or_set1 (by omega) (by simp [hangB, g, g2])], Eo_trans hE hE2⟩, rfl⟩
      · simp only [if_true]
        exact ⟨(s, N2), ⟨by show s = _; rw [h3, set_skip (p := hangB c k) (n := i) (by simp [hangB, g2])], Eo_trans hE hE2⟩, rfl⟩
    · simp only [if_neg g, if_true]
      exact ⟨(s, N), ⟨by show s = _; rw [h3, set_skip (p := hangB c k) (n := i) (by simp [hangB, g])], hE⟩, rfl⟩
  · rintro n ⟨s, N⟩ ⟨h3, hE⟩
    replace hE : Eo [64] M N := hE
    have e3 : N 23 3 = c 1 := (Rg_64 hE hR).1.2.2.2.1
    show Wp (f_X7_hangSet_5 (n + 1) (k : Int) s (((c 1).toNat : Nat) : Int) N) _
    simp only [f_X7_hangSet_5]
    rw [if_pos (by omega)]
    exact wp_some ⟨h3, hE⟩
/-- what is lost by a wire -/
def lostW (c : Nat → Int) (w : Nat) : Nat := dif (rungN c) (rungN (cutC c w))
theorem m_lostBy {M : AM} (hI : Ic (M 5)) {w : Nat} (hw : (w : Int) < M 5 1) (h1w : M 5 (37 + w) = 1) : ∃ N, f_X11_lostBy (w : Int) M = some (((lostW (M 5) w : Nat) : Int), N) ∧ N 5 = M 5 ∧ Eo [5, 9] M N := by
  have h1 := hI.2.1
  have h2 := hI.2.2.1
  have hr : rungN (M 5) < 1024 := lt1024 (n := (M 5 2).toNat) (by omega) (setB_lt _ _)
  unfold f_X11_lostBy
  rw [m_rung hI, bind_s]
  dsimp only
  simp (disch := omega) only [o_add_eq (x := 37), tp37]
  rw [if_pos (by omega), zlet_eq]
  have e5 : am_upd (LF M) 5 (37 + w) 0 5 = cutC (M 5) w := by rw [am5, LF5]; rfl
  have hI2 : Ic (am_upd (LF M) 5 (37 + w) 0 5) := by rw [e5]; exact Ic_cutC hI (by omega)
  have c2 : cutC (M 5) w 2 = M 5 2 := cset_ne (by omega)
  have hr2 : rungN (cutC (M 5) w) < 1024 := lt1024 (n := (cutC (M 5) w 2).toNat) (by rw [c2]; omega) (setB_lt _ _)
  rw [m_rung hI2, bind_s, e5, zlet_eq]
  dsimp only
  rw [o_dif hr hr2]
  refine ⟨_, rfl, ?_, ?_⟩
  · rw [am5, LF5, e5]
    funext j
    unfold cset cutC cset
    by_cases e : j = 37 + w
    · rw [if_pos e, e, h1w]
    · rw [if_neg e, if_neg e]
  · exact Eo_upd _ _ (by simp) (Eo_trans (Eo_upd _ _ (by simp) (Eo_sub (LF_Eo M) (by simp))) (Eo_sub (LF_Eo _) (by simp)))
theorem rungN_bit {c : Nat → Int} {k : Nat} (hk : (k : Int) < c 2) : (rungN c).testBit k = rungB c k := by
  unfold rungN
  rw [setB_bit]
  have : k < (c 2).toNat := by omega
  simp [this]
theorem Eo59_Qm {M N : AM} (h : Eo [5, 9] M N) : Qm M N := Qm_Eo h (by intro a ha; simp at ha; unfold mcell; omega)
theorem a_hangs (a1 : Int) : Alike (f_X10_hangs a1) (f_X11_hangs a1) := by
  refine alike_q (fun c => if 0 ≤ a1 ∧ a1 < c 2 then (if rungB c a1.toNat then ((setB (hangB c a1.toNat) (c 1).toNat : Nat) : Int) else -1) else -1) (fun c => if 0 ≤ a1 ∧ a1 < c 2 then (if rungB c a1.toNat then 0 else 9) else 2) ?_ ?_
  · intro c M hI h9 hR
    have hg := (Rh_iff.mp hR).1
    unfold f_X10_hangs
    by_cases g1 : 0 ≤ a1 ∧ a1 < c 2
    · obtain ⟨k, rfl⟩ : ∃ w : Nat, a1 = (w : Int) := ⟨a1.toNat, by omega⟩
      rw [xcoup_t hg g1, bind_s]
      simp only [if_pos g1, i10, not_false_eq_true, if_true, tnc]
      obtain ⟨N, e, hN⟩ := x_isRung hI hR g1.2
      rw [e, bind_s]
      cases g : rungB c k
      · simp only [Bool.false_eq_true, if_false, if_true, x_fail, bind_s]
        exact x_end (Qx_Hm hN) hN.1
      · simp only [if_true, i10, if_false]
        obtain ⟨⟨v, N2⟩, e2, hv, hE⟩ := x_hangSet hI (Rh_iff.mp hN.1).1 g1.2
        replace hv : v = _ := hv
        rw [e2, bind_s, x_answer, bind_s, hv]
        exact x_end (Qx_trans (Qx_Hm hN) (Qx_64 hE)) (Rh_64 hE hN.1)
    · rw [xcoup_f hg g1, bind_s]
      simp only [if_neg g1, i00, not_true_eq_false, if_false, x_fail, bind_s]
      exact x_end (Qx_refl M) hR
  · intro P hI h9
    obtain ⟨M2, hM2, e5, q2, s2, hc, hf⟩ := MS_ok P
    rw [← e5] at hI
    have h2 := hI.2.2.1
    have h1 := hI.2.1
    have hr : rungN (M2 5) < 1024 := lt1024 (n := (M2 5 2).toNat) (by omega) (setB_lt _ _)
    unfold f_X11_hangs
    rw [zlet_eq, zlet_eq, hM2, ← e5]
    by_cases g1 : 0 ≤ a1 ∧ a1 < M2 5 2
    · obtain ⟨k, rfl⟩ : ∃ w : Nat, a1 = (w : Int) := ⟨a1.toNat, by omega⟩
      rw [mcoup_t hI g1, bind_s]
      simp only [if_pos g1, i10, not_false_eq_true, if_true, tnc]
      rw [m_rung hI, bind_s]
      dsimp only
      rw [m_has hr (by omega), bind_s, rungN_bit g1.2]
      cases g : rungB (M2 5) k
      · simp only [Bool.false_eq_true, if_false, not_true_eq_false, m_refuse, bind_s]
        exact m_end (Qm_trans q2 (Qm_LF M2)) (LF5 M2)
      · simp only [if_true, i10, not_false_eq_true]
        have hw : Wp (f_X11_hangs_46 zB (k : Int) 0 0 (LF M2)) (fun r => r.1 = ((setB (hangB (M2 5) k) (M2 5 1).toNat : Nat) : Int) ∧ r.2 5 = M2 5 ∧ Eo [5, 9] M2 r.2) := by
          refine up_loopP0 (fun n i (s : Int × AM) => f_X11_hangs_46 n (k : Int) s.1 (i : Int) s.2) (fun i s => s.1 = ((setB (hangB (M2 5) k) i : Nat) : Int) ∧ s.2 5 = M2 5 ∧ Eo [5, 9] M2 s.2) _ (M2 5 1).toNat (0, LF M2) ⟨rfl, LF5 M2, Eo_sub (LF_Eo M2) (by simp)⟩ ?_ ?_ (by omega)
          · rintro n i ⟨s, N⟩ hi ⟨h3, h5, hE⟩
            replace h3 : s = _ := h3
            replace h5 : N 5 = M2 5 := h5
            replace hE : Eo [5, 9] M2 N := hE
            have hIN : Ic (N 5) := by rw [h5]; exact hI
            left
            show ∃ s2 : Int × AM, _ ∧ f_X11_hangs_46 (n + 1) (k : Int) s (i : Int) N = _
            simp only [f_X11_hangs_46, h5, tn1]
            simp (disch := omega) only [o_add_eq (x := 37), tp37]
            rw [if_neg (by omega), if_pos (by omega)]
            by_cases g2 : M2 5 (37 + i) = 1
            · obtain ⟨N2, e, h52, hE2⟩ := m_lostBy hIN (w := i) (by rw [h5]; omega) (by rw [h5]; exact g2)
              rw [h5] at e h52
              have hl : lostW (M2 5) i < 1024 := dif_lt (n := 10) hr
              rw [if_neg (fun h => h g2), e, bind_s]
              dsimp only
              have hbit : (lostW (M2 5) i).testBit k = !rungB (cutC (M2 5) i) k := by
                unfold lostW
                have c2 : cutC (M2 5) i 2 = M2 5 2 := cset_ne (by omega)
                rw [dif_bit, rungN_bit g1.2, rungN_bit (by rw [c2]; exact g1.2), g]
                rfl
              rw [m_has hl (by omega), bind_s, hbit, o_succ (by omega)]
              cases g3 : rungB (cutC (M2 5) i) k
              · simp only [Bool.not_false, if_true, i10, if_false]
                exact ⟨(o_or s (o_shl 1 (i : Int)), N2), ⟨by show o_or s _ = _; rw [h3, o_or_set1 (by omega) (by simp [hangB, g2, g3])], h52, Eo_trans hE hE2⟩, rfl⟩
              · simp only [Bool.not_true, Bool.false_eq_true, if_false, if_true]
                exact ⟨(o_or s 0, N2), ⟨by show o_or s _ = _; rw [h3, o_or_set0 (by omega) (by simp [hangB, g3])], h52, Eo_trans hE hE2⟩, rfl⟩
            · rw [if_pos g2, o_succ (by omega)]
              exact ⟨(o_or s 0, N), ⟨by show o_or s _ = _; rw [h3, o_or_set0 (by omega) (by simp [hangB, g2])], h5, hE⟩, rfl⟩
          · rintro n ⟨s, N⟩ ⟨h3, h5, hE⟩
            replace h5 : N 5 = M2 5 := h5
            show Wp (f_X11_hangs_46 (n + 1) (k : Int) s (((M2 5 1).toNat : Nat) : Int) N) _
            simp only [f_X11_hangs_46, h5, tn1]
            rw [if_pos (by omega)]
            exact wp_some ⟨h3, h5, hE⟩
        obtain ⟨⟨v, N⟩, e, hv, h5, hE⟩ := hw
        replace hv : v = _ := hv
        have hN0 : N 0 = M2 0 := hE 0 (by simp)
        rw [e, hv]
        exact m_fin (Qm_trans q2 (Eo59_Qm hE)) h5 (by show N 0 0 = 0; rw [hN0]; exact s2)
    · rw [mcoup_f hI g1, bind_s]
      simp only [if_neg g1, i00, not_true_eq_false, if_false, m_refuse, bind_s]
      exact m_end q2 rfl
/-! VITAL -/
def stepV (c : Nat → Int) (b : Int × Int) (w : Nat) : Int × Int := if c (37 + w) = 0 then b else if b.2 < ((pc (lostW c w) : Nat) : Int) then ((w : Int), ((pc (lostW c w) : Nat) : Int)) else b
def vitF (c : Nat → Int) : Int × Int := rg (c 1).toNat (stepV c) (-1, -1)
theorem vit_b (c : Nat → Int) : ∀ i, -1 ≤ (rg i (stepV c) (-1, -1)).1 ∧ -1 ≤ (rg i (stepV c) (-1, -1)).2 := by
  intro i
  induction i with
  | zero => exact ⟨Int.le_refl _, Int.le_refl _⟩
  | succ i ih =>
    rw [rg_succ]
    generalize rg i (stepV c) (-1, -1) = b at ih
    unfold stepV
    split
    · exact ih
    · split
      · exact ⟨by show -1 ≤ (i : Int); omega, by show (-1 : Int) ≤ ((pc (lostW c i) : Nat) : Int); omega⟩
      · exact ih
theorem pc_lost {c : Nat → Int} (hI : Ic c) (w : Nat) : pc (lostW c w) = cntB (fun k => rungB c k && !rungB (cutC c w) k) (c 2).toNat := by
  have h2 := hI.2.2.1
  have c2 : cutC c w 2 = c 2 := cset_ne (by omega)
  have hr : rungN c < 2 ^ (c 2).toNat := setB_lt _ _
  have e : pc (lostW c w) = cntB (lostW c w).testBit (c 2).toNat := cnt_small (dif_lt hr) 10 (by omega)
  rw [e]
  refine cntB_congr _ (fun k hk => ?_)
  unfold lostW
  rw [dif_bit, rungN_bit (by omega), rungN_bit (by rw [c2]; omega)]
theorem x_most37 {c : Nat → Int} {M : AM} (hI : Ic c) (hR : Rg c 23 M) (k13 : Int → Int → Int → Int → AM → Option (Int × AM)) {w : Nat} (hw : (w : Int) < c 1) (b m : Int) :
    ∃ N, f_X7_mostHungOn_37 k13 zB ((rungN c : Nat) : Int) b m (w : Int) 0 0 M = (if ((pc (lostW c w) : Nat) : Int) ≤ m then k13 ((rungN c : Nat) : Int) b m (o_add (w : Int) 1) N else k13 ((rungN c : Nat) : Int) (w : Int) ((pc (lostW c w) : Nat) : Int) (o_add (w : Int) 1) N) ∧ Eo [64] M N := by
  have h2 := hI.2.2.1
  have hr : rungN c < 1024 := lt1024 (n := (c 2).toNat) (by omega) (setB_lt _ _)
  refine up_loopE0 (fun n i (s : Int × AM) => f_X7_mostHungOn_37 k13 n ((rungN c : Nat) : Int) b m (w : Int) s.1 (i : Int) s.2) (fun i s => s.1 = ((cntB (fun k => rungB c k && !rungB (cutC c w) k) i : Nat) : Int) ∧ Eo [64] M s.2)
    (fun o => ∃ N, o = (if ((pc (lostW c w) : Nat) : Int) ≤ m then k13 ((rungN c : Nat) : Int) b m (o_add (w : Int) 1) N else k13 ((rungN c : Nat) : Int) (w : Int) ((pc (lostW c w) : Nat) : Int) (o_add (w : Int) 1) N) ∧ Eo [64] M N) (c 2).toNat (0, M) ⟨rfl, Eo_refl _ _⟩ ?_ ?_ (by omega)
  · rintro n i ⟨s, N⟩ hi ⟨h3, hE⟩
    replace h3 : s = _ := h3
    replace hE : Eo [64] M N := hE
    have hRN := Rg_64 hE hR
    have e4 : N 23 4 = c 2 := hRN.1.2.2.2.2.1
    have hle := cntB_le (fun k => rungB c k && !rungB (cutC c w) k) i
    left
    show ∃ s2 : Int × AM, _ ∧ f_X7_mostHungOn_37 k13 (n + 1) ((rungN c : Nat) : Int) b m (w : Int) s (i : Int) N = _
    simp only [f_X7_mostHungOn_37]
    rw [if_neg (by omega), o_bit hr (by omega), rungN_bit (by omega)]
    cases g : rungB c i
    · simp only [Bool.false_eq_true, if_false, if_true]
      exact ⟨(s, N), ⟨by show s = _; rw [h3]; simp [cntB, g], hE⟩, by rw [o_succ (by omega)]⟩
    · simp only [if_true, i10, if_false]
      obtain ⟨N2, e, hE2⟩ := x_hangsOn hI hRN (k := i) (by omega) hw
      rw [e, bind_s, o_succ (by omega)]
      dsimp only
      cases g2 : rungB (cutC c w) i
      · simp only [Bool.false_eq_true, if_false, i10]
        rw [o_add_eq (by omega) (by omega)]
        exact ⟨(s + 1, N2), ⟨by show s + 1 = _; rw [h3]; simp [cntB, g, g2], Eo_trans hE hE2⟩, rfl⟩
      · simp only [if_true]
        exact ⟨(s, N2), ⟨by show s = _; rw [h3]; simp [cntB, g2], Eo_trans hE hE2⟩, rfl⟩
  · rintro n ⟨s, N⟩ ⟨h3, hE⟩
    replace h3 : s = _ := h3
    replace hE : Eo [64] M N := hE
    have e4 : N 23 4 = c 2 := (Rg_64 hE hR).1.2.2.2.2.1
    refine ⟨N, ?_, hE⟩
    show f_X7_mostHungOn_37 k13 (n + 1) ((rungN c : Nat) : Int) b m (w : Int) s (((c 2).toNat : Nat) : Int) N = _
    simp only [f_X7_mostHungOn_37]
    rw [if_pos (by omega), h3, pc_lost hI]
theorem a_vital : Alike f_X10_vital f_X11_vital := by
  refine alike_q (fun c => (vitF c).1) (fun c => if (vitF c).1 = -1 then 8 else 0) ?_ ?_
  · intro c M hI h9 hR
    have h1 := hI.2.1
    unfold f_X10_vital f_X7_mostHungOn
    obtain ⟨⟨v, N⟩, e, hv, hN⟩ := x_rungSet hI hR
    replace hv : v = ((rungN c : Nat) : Int) := hv
    replace hN : Hm c 23 M N := hN
    subst hv
    rw [e, bind_s]
    dsimp only
    have hRN := (Rh_iff.mp hN.1).1
    have hw : Wp (f_X7_mostHungOn_13 zB ((rungN c : Nat) : Int) (-1) (-1) 0 N) (fun r => r.1 = (vitF c).1 ∧ Eo [64] N r.2) := by
      refine up_loopP0 (fun n i (s : (Int × Int) × AM) => f_X7_mostHungOn_13 n ((rungN c : Nat) : Int) s.1.1 s.1.2 (i : Int) s.2) (fun i s => s.1 = rg i (stepV c) (-1, -1) ∧ Eo [64] N s.2) _ (c 1).toNat ((-1, -1), N) ⟨rfl, Eo_refl _ _⟩ ?_ ?_ (by omega)
      · rintro n i ⟨⟨b, m⟩, N2⟩ hi ⟨h3, hE⟩
        replace h3 : (b, m) = rg i (stepV c) (-1, -1) := h3
        replace hE : Eo [64] N N2 := hE
        have hRN2 := Rg_64 hE hRN
        have e3 : N2 23 3 = c 1 := hRN2.1.2.2.2.1
        have hIw := Ic_w hI (w := i) (by omega)
        left
        show ∃ s2 : (Int × Int) × AM, _ ∧ f_X7_mostHungOn_13 (n + 1) ((rungN c : Nat) : Int) b m (i : Int) N2 = _
        simp only [f_X7_mostHungOn_13]
        rw [if_neg (by omega), x_isWhole (Ib_of hI) hRN2 (by omega), bind_s]
        have hs : rg (i + 1) (stepV c) (-1, -1) = stepV c (b, m) i := by rw [rg_succ, ← h3]
        by_cases g : c (37 + i) = 1
        · simp only [if_pos g, i10, if_false]
          obtain ⟨N3, e3', hE3⟩ := x_most37 hI hRN2 (f_X7_mostHungOn_13 n) (w := i) (by omega) b m
          rw [e3', o_succ (by omega)]
          by_cases g2 : ((pc (lostW c i) : Nat) : Int) ≤ m
          · rw [if_pos g2]
            exact ⟨((b, m), N3), ⟨by rw [hs]; unfold stepV; rw [if_neg (by omega), if_neg (by show ¬ m < _; omega)], Eo_trans hE hE3⟩, rfl⟩
          · rw [if_neg g2]
            exact ⟨(((i : Int), ((pc (lostW c i) : Nat) : Int)), N3), ⟨by rw [hs]; unfold stepV; rw [if_neg (by omega), if_pos (by show m < _; omega)], Eo_trans hE hE3⟩, rfl⟩
        · simp only [if_neg g, if_true]
          exact ⟨((b, m), N2), ⟨by rw [hs]; unfold stepV; rw [if_pos (by omega)], hE⟩, by rw [o_succ (by omega)]⟩
      · rintro n ⟨⟨b, m⟩, N2⟩ ⟨h3, hE⟩
        replace h3 : (b, m) = rg (c 1).toNat (stepV c) (-1, -1) := h3
        replace hE : Eo [64] N N2 := hE
        have e3 : N2 23 3 = c 1 := (Rg_64 hE hRN).1.2.2.2.1
        show Wp (f_X7_mostHungOn_13 (n + 1) ((rungN c : Nat) : Int) b m (((c 1).toNat : Nat) : Int) N2) _
        simp only [f_X7_mostHungOn_13]
        rw [if_pos (by omega)]
        refine wp_some ⟨?_, hE⟩
        show b = (rg (c 1).toNat (stepV c) (-1, -1)).1
        rw [← h3]
    obtain ⟨⟨z, N2⟩, e2, hz, hE⟩ := hw
    replace hz : z = (vitF c).1 := hz
    rw [e2, bind_s]
    dsimp only
    rw [hz]
    by_cases g : (vitF c).1 = -1
    · rw [if_neg (fun h => h g), x_fail, bind_s, if_pos g, g]
      exact x_end (Qx_trans (Qx_Hm hN) (Qx_64 hE)) (Rh_64 hE hN.1)
    · rw [if_pos g, x_answer, bind_s, if_neg g]
      exact x_end (Qx_trans (Qx_Hm hN) (Qx_64 hE)) (Rh_64 hE hN.1)
  · intro P hI h9
    obtain ⟨M2, hM2, e5, q2, s2, hc, hf⟩ := MS_ok P
    rw [← e5] at hI
    have h2 := hI.2.2.1
    have h1 := hI.2.1
    have hr : rungN (M2 5) < 1024 := lt1024 (n := (M2 5 2).toNat) (by omega) (setB_lt _ _)
    unfold f_X11_vital
    rw [zlet_eq, zlet_eq, hM2, ← e5]
    have hw : Wp (f_X11_vital_16 zB (-1) (-1) 0 M2) (fun r => r.1 = (vitF (M2 5)).1 ∧ Qm M2 r.2 ∧ r.2 5 = M2 5 ∧ r.2 0 0 = (if (vitF (M2 5)).1 = -1 then 8 else 0)) := by
      refine up_loopP0 (fun n i (s : (Int × Int) × AM) => f_X11_vital_16 n s.1.1 s.1.2 (i : Int) s.2) (fun i s => s.1 = rg i (stepV (M2 5)) (-1, -1) ∧ s.2 5 = M2 5 ∧ Eo [5, 9] M2 s.2) _ (M2 5 1).toNat ((-1, -1), M2) ⟨rfl, rfl, Eo_refl _ _⟩ ?_ ?_ (by omega)
      · rintro n i ⟨⟨b, m⟩, N⟩ hi ⟨h3, h5, hE⟩
        replace h3 : (b, m) = rg i (stepV (M2 5)) (-1, -1) := h3
        replace h5 : N 5 = M2 5 := h5
        replace hE : Eo [5, 9] M2 N := hE
        have hIN : Ic (N 5) := by rw [h5]; exact hI
        have hIw := Ic_w hI (w := i) (by omega)
        have hs : rg (i + 1) (stepV (M2 5)) (-1, -1) = stepV (M2 5) (b, m) i := by rw [rg_succ, ← h3]
        have hl : lostW (M2 5) i < 1024 := dif_lt (n := 10) hr
        left
        show ∃ s2 : (Int × Int) × AM, _ ∧ f_X11_vital_16 (n + 1) b m (i : Int) N = _
        simp only [f_X11_vital_16, h5, tn1]
        simp (disch := omega) only [o_add_eq (x := 37), tp37]
        rw [if_neg (by omega), if_pos (by omega)]
        by_cases g : M2 5 (37 + i) = 0
        · rw [if_pos g, o_succ (by omega)]
          exact ⟨((b, m), N), ⟨by rw [hs]; unfold stepV; rw [if_pos g], h5, hE⟩, rfl⟩
        · obtain ⟨N2, e, h52, hE2⟩ := m_lostBy hIN (w := i) (by rw [h5]; omega) (by rw [h5]; omega)
          rw [h5] at e h52
          rw [if_neg g, e, bind_s]
          dsimp only
          rw [m_sizeOf' hl, bind_s]
          dsimp only
          by_cases g2 : m < ((pc (lostW (M2 5) i) : Nat) : Int)
          · obtain ⟨N3, e3, h53, hE3⟩ := m_lostBy (M := N2) (by rw [h52]; exact hI) (w := i) (by rw [h52]; omega) (by rw [h52]; omega)
            rw [h52] at e3 h53
            rw [if_pos g2, e3, bind_s]
            dsimp only
            rw [m_sizeOf' hl, bind_s, o_succ (by omega)]
            exact ⟨(((i : Int), ((pc (lostW (M2 5) i) : Nat) : Int)), N3), ⟨by rw [hs]; unfold stepV; rw [if_neg g, if_pos (by exact g2)], h53, Eo_trans hE (Eo_trans hE2 hE3)⟩, rfl⟩
          · rw [if_neg g2, o_succ (by omega)]
            exact ⟨((b, m), N2), ⟨by rw [hs]; unfold stepV; rw [if_neg g, if_neg (by exact g2)], h52, Eo_trans hE hE2⟩, rfl⟩
      · rintro n ⟨⟨b, m⟩, N⟩ ⟨h3, h5, hE⟩
        replace h3 : (b, m) = vitF (M2 5) := h3
        replace h5 : N 5 = M2 5 := h5
        replace hE : Eo [5, 9] M2 N := hE
        have hb := vit_b (M2 5) (M2 5 1).toNat
        have hb1 : b = (vitF (M2 5)).1 := by rw [← h3]
        have hb2 : -1 ≤ (vitF (M2 5)).1 := hb.1
        have hN0 : N 0 = M2 0 := hE 0 (by simp)
        show Wp (f_X11_vital_16 (n + 1) b m (((M2 5 1).toNat : Nat) : Int) N) _
        simp only [f_X11_vital_16, h5, tn1]
        rw [if_pos (by omega)]
        by_cases g : (vitF (M2 5)).1 = -1
        · have z5 : am_upd N 0 0 8 5 = M2 5 := (am_upd_cell (by decide)).trans h5
          have z0 : am_upd N 0 0 8 0 0 = 8 := am_upd_self _ _ _ _
          rw [if_neg (by omega), m_refuse, bind_s, if_pos g]
          exact wp_some ⟨g.symm, Qm_trans (Eo59_Qm hE) (Qm_st _ _), z5, z0⟩
        · rw [if_pos (by omega), if_neg g]
          exact wp_some ⟨hb1, Eo59_Qm hE, h5, by show N 0 0 = 0; rw [hN0]; exact s2⟩
    obtain ⟨⟨v, N⟩, e, hv, hq, h5, hs⟩ := hw
    replace hv : v = _ := hv
    rw [e, hv]
    exact m_fin (Qm_trans q2 hq) h5 hs
