/-! public calls that look at the HOUSE, or change a cell of it -/
theorem i10 : ((1 : Int) = 0) = False := by simp
theorem i00 : ((0 : Int) = 0) = True := by simp
theorem xroom_t {c : Nat → Int} {q : Nat} {M : AM} (h : Rg c q M) {a : Int} (ha : 0 ≤ a ∧ a < c 0) : f_X1_isRoom q a M = some (1, M) := by rw [x_isRoom, h.1.2.2.1, if_pos ha]
theorem xroom_f {c : Nat → Int} {q : Nat} {M : AM} (h : Rg c q M) {a : Int} (ha : ¬ (0 ≤ a ∧ a < c 0)) : f_X1_isRoom q a M = some (0, M) := by rw [x_isRoom, h.1.2.2.1, if_neg ha]
theorem xwire_t {c : Nat → Int} {q : Nat} {M : AM} (h : Rg c q M) {a : Int} (ha : 0 ≤ a ∧ a < c 1) : f_X1_isWire q a M = some (1, M) := by rw [x_isWire, h.1.2.2.2.1, if_pos ha]
theorem xwire_f {c : Nat → Int} {q : Nat} {M : AM} (h : Rg c q M) {a : Int} (ha : ¬ (0 ≤ a ∧ a < c 1)) : f_X1_isWire q a M = some (0, M) := by rw [x_isWire, h.1.2.2.2.1, if_neg ha]
theorem xcoup_t {c : Nat → Int} {q : Nat} {M : AM} (h : Rg c q M) {a : Int} (ha : 0 ≤ a ∧ a < c 2) : f_X1_isCouple q a M = some (1, M) := by rw [x_isCouple, h.1.2.2.2.2.1, if_pos ha]
theorem xcoup_f {c : Nat → Int} {q : Nat} {M : AM} (h : Rg c q M) {a : Int} (ha : ¬ (0 ≤ a ∧ a < c 2)) : f_X1_isCouple q a M = some (0, M) := by rw [x_isCouple, h.1.2.2.2.2.1, if_neg ha]
theorem mroom_t {M : AM} (hI : Ic (M 5)) {a : Int} (ha : 0 ≤ a ∧ a < M 5 0) : f_X11_isRoomAt a M = some (1, M) := by
  have := hI.1
  rw [m_isRoomAt a M (by omega) (by omega), if_pos ha]
theorem mroom_f {M : AM} (hI : Ic (M 5)) {a : Int} (ha : ¬ (0 ≤ a ∧ a < M 5 0)) : f_X11_isRoomAt a M = some (0, M) := by
  have := hI.1
  rw [m_isRoomAt a M (by omega) (by omega), if_neg ha]
theorem mwire_t {M : AM} (hI : Ic (M 5)) {a : Int} (ha : 0 ≤ a ∧ a < M 5 1) : f_X11_isWireAt a M = some (1, M) := by
  have := hI.2.1
  rw [m_isWireAt a M (by omega) (by omega), if_pos ha]
theorem mwire_f {M : AM} (hI : Ic (M 5)) {a : Int} (ha : ¬ (0 ≤ a ∧ a < M 5 1)) : f_X11_isWireAt a M = some (0, M) := by
  have := hI.2.1
  rw [m_isWireAt a M (by omega) (by omega), if_neg ha]
theorem mcoup_t {M : AM} (hI : Ic (M 5)) {a : Int} (ha : 0 ≤ a ∧ a < M 5 2) : f_X11_isCoupleAt a M = some (1, M) := by
  have := hI.2.2.1
  rw [m_isCoupleAt a M (by omega) (by omega), if_pos ha]
theorem mcoup_f {M : AM} (hI : Ic (M 5)) {a : Int} (ha : ¬ (0 ≤ a ∧ a < M 5 2)) : f_X11_isCoupleAt a M = some (0, M) := by
  have := hI.2.2.1
  rw [m_isCoupleAt a M (by omega) (by omega), if_neg ha]
theorem isin_t {M : AM} {a lo hi : Int} (h : lo ≤ a ∧ a ≤ hi) : f_X11_isIn a lo hi M = some (1, M) := by rw [m_isIn, if_pos h]
theorem isin_f {M : AM} {a lo hi : Int} (h : ¬ (lo ≤ a ∧ a ≤ hi)) : f_X11_isIn a lo hi M = some (0, M) := by rw [m_isIn, if_neg h]
theorem x_end {c : Nat → Int} {M N : AM} {v s : Int} (hq : Qx M N) (hR : Rh c 23 N) : ∃ N', (some (v, am_upd N 15 0 s) : Option (Int × AM)) = some (v, N') ∧ Qx M N' ∧ Rh c 23 N' ∧ N' 15 0 = s :=
  ⟨_, rfl, Qx_trans hq (Qx_st _ _), Rh_cong (fun i hi => am_upd_cell (by omega)) hR, am_upd_self _ _ _ _⟩
theorem m_end {P N : AM} {v s : Int} {c : Nat → Int} (hq : Qm P N) (h5 : N 5 = c) : ∃ N', (some (v, am_upd N 0 0 s) : Option (Int × AM)) = some (v, N') ∧ Qm P N' ∧ N' 5 = c ∧ N' 0 0 = s :=
  ⟨_, rfl, Qm_trans hq (Qm_st _ _), (am_upd_cell (by decide)).trans h5, am_upd_self _ _ _ _⟩
theorem m_fin {P N : AM} {v s : Int} {c : Nat → Int} (hq : Qm P N) (h5 : N 5 = c) (hs : N 0 0 = s) : ∃ N', (some (v, N) : Option (Int × AM)) = some (v, N') ∧ Qm P N' ∧ N' 5 = c ∧ N' 0 0 = s := ⟨N, rfl, hq, h5, hs⟩
theorem Qm_LF (M : AM) : Qm M (LF M) := Qm_Eo (LF_Eo M) (by intro a ha; simp at ha; subst ha; exact ⟨by unfold mcell; omega, by omega⟩)
theorem LF_s {M : AM} {s : Int} (h : M 0 0 = s) : LF M 0 0 = s := by rw [LF_ne (by decide)]; exact h
theorem LF00 (M : AM) : LF M 0 = M 0 := LF_ne (by decide)
/-- loops of the class that ask for lengths -/
theorem x_heardSet {c : Nat → Int} {q : Nat} {M : AM} (hI : Ic c) (hR : Rh c q M) {p : Int} (hp : 0 ≤ p ∧ p < c 0) : Wp (f_X1_heardSet q p M) (fun r => r.1 = (heardN c p : Nat) ∧ Hm c q M r.2) := by
  have h0 := hI.1
  unfold f_X1_heardSet
  refine up_loopP0 (fun n i (s : Int × AM) => f_X1_heardSet_4 n q p s.1 (i : Int) s.2) (fun i s => s.1 = (setB (heardB c p) i : Nat) ∧ Hm c q M s.2) _ (c 0).toNat (0, M) ⟨rfl, Hm_refl hR⟩ ?_ ?_ (by omega)
  · rintro n i ⟨s, N⟩ hi ⟨h1, h2⟩
    replace h1 : s = (setB (heardB c p) i : Nat) := h1
    replace h2 : Hm c q M N := h2
    left
    show ∃ s2 : Int × AM, _ ∧ f_X1_heardSet_4 (n + 1) q p s (i : Int) N = _
    simp only [f_X1_heardSet_4]
    rw [h2.1.1.2.2.1, if_neg (by omega)]
    obtain ⟨N2, e, hN2⟩ := x_distance hI h2.1 hp (y := (i : Int)) ⟨by omega, by omega⟩
    rw [e, bind_s]
    dsimp only
    have hp0 : N2 q 0 = c 3 := hN2.1.1.1
    rw [o_succ (by omega)]
    by_cases g : FD c p (i : Int) ≤ c 3
    · rw [if_neg (by omega)]
      exact ⟨(o_or s (o_shl 1 (i : Int)), N2), ⟨by show o_or s (o_shl 1 (i : Int)) = _; rw [h1, o_or_set1 (by omega) (by simp [heardB, g])], Hm_trans h2 hN2⟩, rfl⟩
    · rw [if_pos (by omega)]
      exact ⟨(s, N2), ⟨by show s = _; rw [h1, set_skip (p := heardB c p) (n := i) (by simp [heardB, g])], Hm_trans h2 hN2⟩, rfl⟩
  · rintro n ⟨s, N⟩ ⟨h1, h2⟩
    replace h2 : Hm c q M N := h2
    show Wp (f_X1_heardSet_4 (n + 1) q p s (((c 0).toNat : Nat) : Int) N) _
    simp only [f_X1_heardSet_4]
    rw [h2.1.1.2.2.1, if_pos (by omega)]
    exact wp_some ⟨h1, h2⟩
theorem x_isRung {c : Nat → Int} {q : Nat} {M : AM} (hI : Ic c) (hR : Rh c q M) {k : Nat} (hk : (k : Int) < c 2) : ∃ N, f_X1_isRung q (k : Int) M = some (if rungB c k then 1 else 0, N) ∧ Hm c q M N := by
  have h2 := hI.2.2.1
  have hk2 := Ic_k hI hk
  have hr := (Rh_iff.mp hR).1.2.2.1 k hk
  unfold f_X1_isRung
  rw [if_pos (by omega), tnc, hr.1, hr.2.1]
  obtain ⟨N, e, hN⟩ := x_distance hI hR (x := c (47 + k)) (y := c (53 + k)) hk2.1 hk2.2.1
  rw [e, bind_s]
  dsimp only
  have hp0 : N q 0 = c 3 := hN.1.1.1
  refine ⟨N, ?_, hN⟩
  unfold rungB
  by_cases g : FD c (c (47 + k)) (c (53 + k)) ≤ c 3
  · rw [if_neg (by omega)]; simp [g]
  · rw [if_pos (by omega)]; simp [g]
theorem x_rungSet {c : Nat → Int} {q : Nat} {M : AM} (hI : Ic c) (hR : Rh c q M) : Wp (f_X1_rungSet q M) (fun r => r.1 = (rungN c : Nat) ∧ Hm c q M r.2) := by
  have h0 := hI.2.2.1
  unfold f_X1_rungSet
  refine up_loopP0 (fun n i (s : Int × AM) => f_X1_rungSet_4 n q s.1 (i : Int) s.2) (fun i s => s.1 = (setB (rungB c) i : Nat) ∧ Hm c q M s.2) _ (c 2).toNat (0, M) ⟨rfl, Hm_refl hR⟩ ?_ ?_ (by omega)
  · rintro n i ⟨s, N⟩ hi ⟨h1, h2⟩
    replace h1 : s = (setB (rungB c) i : Nat) := h1
    replace h2 : Hm c q M N := h2
    left
    show ∃ s2 : Int × AM, _ ∧ f_X1_rungSet_4 (n + 1) q s (i : Int) N = _
    simp only [f_X1_rungSet_4]
    rw [h2.1.1.2.2.2.2.1, if_neg (by omega)]
    obtain ⟨N2, e, hN2⟩ := x_isRung hI h2.1 (k := i) (by omega)
    rw [e, bind_s]
    dsimp only
    rw [o_succ (by omega)]
    cases g : rungB c i
    · simp only [Bool.false_eq_true, if_false, if_true]
      exact ⟨(s, N2), ⟨by show s = _; rw [h1, set_skip (p := rungB c) (n := i) g], Hm_trans h2 hN2⟩, rfl⟩
    · simp only [if_true, i10, if_false]
      exact ⟨(o_or s (o_shl 1 (i : Int)), N2), ⟨by show o_or s (o_shl 1 (i : Int)) = _; rw [h1, o_or_set1 (by omega) g], Hm_trans h2 hN2⟩, rfl⟩
  · rintro n ⟨s, N⟩ ⟨h1, h2⟩
    replace h2 : Hm c q M N := h2
    show Wp (f_X1_rungSet_4 (n + 1) q s (((c 2).toNat : Nat) : Int) N) _
    simp only [f_X1_rungSet_4]
    rw [h2.1.1.2.2.2.2.1, if_pos (by omega)]
    exact wp_some ⟨h1, h2⟩
theorem x_loveTogether {c : Nat → Int} {q : Nat} {M : AM} (hI : Ic c) (hR : Rg c q M) : f_X1_loveTogether q M = some (loveN c, M) := by
  have h1 := hI.2.2.1
  unfold f_X1_loveTogether
  refine up_loop0 (fun n i (s : Int) => f_X1_loveTogether_4 n q s (i : Int) M) (fun i => rg i (fun (s : Int) k => s + c (59 + k)) 0) (c 2).toNat _ 0 rfl ?_ ?_ (by omega)
  · intro n i hi
    have hb := love_b hI i (by omega)
    have h2 := (Ic_k hI (k := i) (by omega)).2.2.1
    simp only [f_X1_loveTogether_4]
    rw [hR.1.2.2.2.2.1, if_neg (by omega), if_pos (by omega), tnc, (hR.2.2.1 i (by omega)).2.2.1, o_succ (by omega), o_add_eq (by omega) (by omega), rg_succ]
  · intro n
    simp only [f_X1_loveTogether_4]
    rw [hR.1.2.2.2.2.1, if_pos (by omega)]
    rfl
/-! FAR, HEARD .. -/
theorem a_far (a1 a2 : Int) : Alike (f_X10_far a1 a2) (f_X11_far a1 a2) := by
  refine alike_q (fun c => if 0 ≤ a1 ∧ a1 < c 0 then (if 0 ≤ a2 ∧ a2 < c 0 then (if FD c a1 a2 < 1000 then FD c a1 a2 else -1) else -1) else -1) (fun c => if 0 ≤ a1 ∧ a1 < c 0 then (if 0 ≤ a2 ∧ a2 < c 0 then (if FD c a1 a2 < 1000 then 0 else 8) else 2) else 2) ?_ ?_
  · intro c M hI h9 hR
    have hg := (Rh_iff.mp hR).1
    unfold f_X10_far f_X10_far_22
    by_cases g1 : 0 ≤ a1 ∧ a1 < c 0
    · rw [xroom_t hg g1, bind_s]
      simp only [if_pos g1, i10, if_false]
      by_cases g2 : 0 ≤ a2 ∧ a2 < c 0
      · rw [xroom_t hg g2, bind_s]
        simp only [if_pos g2, i10, if_false, not_false_eq_true, if_true]
        obtain ⟨N, e, hN⟩ := x_distance hI hR g1 g2
        rw [e, bind_s]
        dsimp only
        by_cases g3 : FD c a1 a2 < 1000
        · rw [if_neg (by omega), x_answer, bind_s, if_pos g3, if_pos g3]
          exact x_end (Qx_Hm hN) hN.1
        · rw [if_pos (by omega), x_fail, bind_s, if_neg g3, if_neg g3]
          exact x_end (Qx_Hm hN) hN.1
      · rw [xroom_f hg g2, bind_s]
        simp only [if_neg g2, i00, not_true_eq_false, if_false, x_fail, bind_s]
        exact x_end (Qx_refl M) hR
    · rw [xroom_f hg g1, bind_s]
      simp only [if_neg g1, i00, if_true, x_fail, bind_s]
      exact x_end (Qx_refl M) hR
  · intro P hI h9
    have h0 := hI.1
    obtain ⟨M2, hM2, e5, q2, s2, hc, hf⟩ := MS_ok P
    rw [← e5] at hI h0
    unfold f_X11_far f_X11_far_26
    rw [zlet_eq, zlet_eq, hM2, ← e5]
    by_cases g1 : 0 ≤ a1 ∧ a1 < M2 5 0
    · rw [mroom_t hI g1, bind_s]
      simp only [if_pos g1, i10, if_false]
      by_cases g2 : 0 ≤ a2 ∧ a2 < M2 5 0
      · rw [mroom_t hI g2, bind_s]
        simp only [if_pos g2, i10, if_false, not_false_eq_true, if_true]
        rw [m_laysFar hI, bind_s, m_farOf (Lf_LF M2) (by omega) (by omega), bind_s]
        dsimp only
        by_cases g3 : FD (M2 5) a1 a2 < 1000
        · rw [if_pos g3, if_pos g3, if_pos g3, m_farOf (Lf_LF M2) (by omega) (by omega), bind_s]
          exact m_fin (Qm_trans q2 (Qm_LF M2)) (LF5 M2) (LF_s s2)
        · rw [if_neg g3, if_neg g3, if_neg g3, m_refuse, bind_s]
          exact m_end (Qm_trans q2 (Qm_LF M2)) (LF5 M2)
      · rw [mroom_f hI g2, bind_s]
        simp only [if_neg g2, i00, not_true_eq_false, if_false, m_refuse, bind_s]
        exact m_end q2 rfl
    · rw [mroom_f hI g1, bind_s]
      simp only [if_neg g1, i00, if_true, m_refuse, bind_s]
      exact m_end q2 rfl
theorem a_heard (a1 : Int) : Alike (f_X10_heard a1) (f_X11_heard a1) := by
  refine alike_q (fun c => if 0 ≤ a1 ∧ a1 < c 0 then ((heardN c a1 : Nat) : Int) else -1) (fun c => if 0 ≤ a1 ∧ a1 < c 0 then 0 else 2) ?_ ?_
  · intro c M hI h9 hR
    have hg := (Rh_iff.mp hR).1
    unfold f_X10_heard
    by_cases g1 : 0 ≤ a1 ∧ a1 < c 0
    · rw [xroom_t hg g1, bind_s]
      simp only [if_pos g1, i10, if_false]
      obtain ⟨⟨v, N⟩, e, h1, hN⟩ := x_heardSet hI hR g1
      rw [e, bind_s]
      replace h1 : v = _ := h1
      replace hN : Hm c 23 M N := hN
      rw [x_answer, bind_s, ← h1]
      exact x_end (Qx_Hm hN) hN.1
    · rw [xroom_f hg g1, bind_s]
      simp only [if_neg g1, i00, if_true, x_fail, bind_s]
      exact x_end (Qx_refl M) hR
  · intro P hI h9
    obtain ⟨M2, hM2, e5, q2, s2, hc, hf⟩ := MS_ok P
    rw [← e5] at hI
    unfold f_X11_heard
    rw [zlet_eq, zlet_eq, hM2, ← e5]
    by_cases g1 : 0 ≤ a1 ∧ a1 < M2 5 0
    · rw [mroom_t hI g1, bind_s]
      simp only [if_pos g1, i10, if_false, not_false_eq_true, if_true]
      rw [m_laysFar hI, bind_s, m_heardIn hI (LF5 M2) (Lf_LF M2) g1, bind_s]
      exact m_fin (Qm_trans q2 (Qm_LF M2)) (LF5 M2) (LF_s s2)
    · rw [mroom_f hI g1, bind_s]
      simp only [if_neg g1, i00, not_true_eq_false, if_false, m_refuse, bind_s]
      exact m_end q2 rfl
