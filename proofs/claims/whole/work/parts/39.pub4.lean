/-! RINGS, ANSWERS, PARTS, PULLED, CROSSED -/
def ringB (c : Nat → Int) (k e : Nat) : Bool := decide (FD c (c (47 + k)) (c (53 + e)) ≤ c 3)
theorem a_rings (a1 : Int) : Alike (f_X10_rings a1) (f_X11_rings a1) := by
  refine alike_q (fun c => if 0 ≤ a1 ∧ a1 < c 2 then ((setB (ringB c a1.toNat) (c 2).toNat : Nat) : Int) else -1) (fun c => if 0 ≤ a1 ∧ a1 < c 2 then 0 else 2) ?_ ?_
  · intro c M hI h9 hR
    have h2 := hI.2.2.1
    have hg := (Rh_iff.mp hR).1
    unfold f_X10_rings
    by_cases g1 : 0 ≤ a1 ∧ a1 < c 2
    · obtain ⟨k, rfl⟩ : ∃ w : Nat, a1 = (w : Int) := ⟨a1.toNat, by omega⟩
      have hk := Ic_k hI g1.2
      rw [xcoup_t hg g1, bind_s]
      simp only [if_pos g1, i10, not_false_eq_true, if_true, tnc]
      have hw : Wp (f_X10_rings_21 zB (k : Int) 0 0 M) (fun r => r.1 = (setB (ringB c k) (c 2).toNat : Nat) ∧ ∃ N, r.2 = am_upd N 15 0 0 ∧ Hm c 23 M N) := by
        refine up_loopP0 (fun n i (s : Int × AM) => f_X10_rings_21 n (k : Int) s.1 (i : Int) s.2) (fun i s => s.1 = (setB (ringB c k) i : Nat) ∧ Hm c 23 M s.2) _ (c 2).toNat (0, M) ⟨rfl, Hm_refl hR⟩ ?_ ?_ (by omega)
        · rintro n i ⟨s, N⟩ hi ⟨h1, hN⟩
          replace h1 : s = (setB (ringB c k) i : Nat) := h1
          replace hN : Hm c 23 M N := hN
          have hi2 := Ic_k hI (k := i) (by omega)
          have hgN := (Rh_iff.mp hN.1).1
          have e27 : N 27 k = c (47 + k) := (hgN.2.2.1 k g1.2).1
          have e28 : N 28 i = c (53 + i) := (hgN.2.2.1 i (by omega)).2.1
          have e4 : N 23 4 = c 2 := hgN.1.2.2.2.2.1
          left
          show ∃ s2 : Int × AM, _ ∧ f_X10_rings_21 (n + 1) (k : Int) s (i : Int) N = _
          simp only [f_X10_rings_21, tnc, e27, e28]
          rw [if_neg (by omega), if_pos (by omega), if_pos (by omega)]
          obtain ⟨N2, e, hN2⟩ := x_distance hI hN.1 (x := c (47 + k)) (y := c (53 + i)) hk.1 hi2.2.1
          rw [e, bind_s]
          dsimp only
          have hp0 : N2 23 0 = c 3 := hN2.1.1.1
          rw [o_succ (by omega)]
          by_cases g : FD c (c (47 + k)) (c (53 + i)) ≤ c 3
          · rw [if_neg (by omega)]
            exact ⟨(o_or s (o_shl 1 (i : Int)), N2), ⟨by show o_or s (o_shl 1 (i : Int)) = _; rw [h1, o_or_set1 (by omega) (by simp [ringB, g])], Hm_trans hN hN2⟩, rfl⟩
          · rw [if_pos (by omega)]
            exact ⟨(s, N2), ⟨by show s = _; rw [h1, set_skip (p := ringB c k) (n := i) (by simp [ringB, g])], Hm_trans hN hN2⟩, rfl⟩
        · rintro n ⟨s, N⟩ ⟨h1, hN⟩
          replace h1 : s = (setB (ringB c k) (c 2).toNat : Nat) := h1
          replace hN : Hm c 23 M N := hN
          have e4 : N 23 4 = c 2 := hN.1.1.2.2.2.2.1
          show Wp (f_X10_rings_21 (n + 1) (k : Int) s (((c 2).toNat : Nat) : Int) N) _
          simp only [f_X10_rings_21]
          rw [if_pos (by omega), x_answer, bind_s]
          exact wp_some ⟨h1, N, rfl, hN⟩
      obtain ⟨⟨v, N'⟩, e, h1, N, hN', hN⟩ := hw
      replace h1 : v = _ := h1
      replace hN' : N' = am_upd N 15 0 0 := hN'
      rw [e, h1, hN']
      exact x_end (Qx_Hm hN) hN.1
    · rw [xcoup_f hg g1, bind_s]
      simp only [if_neg g1, i00, not_true_eq_false, if_false, x_fail, bind_s]
      exact x_end (Qx_refl M) hR
  · intro P hI h9
    obtain ⟨M2, hM2, e5, q2, s2, hc, hf⟩ := MS_ok P
    rw [← e5] at hI
    have h1 := hI.2.2.1
    have h0 := hI.1
    unfold f_X11_rings
    rw [zlet_eq, zlet_eq, hM2, ← e5]
    by_cases g1 : 0 ≤ a1 ∧ a1 < M2 5 2
    · obtain ⟨k, rfl⟩ : ∃ w : Nat, a1 = (w : Int) := ⟨a1.toNat, by omega⟩
      have hk := Ic_k hI g1.2
      rw [mcoup_t hI g1, bind_s]
      simp only [if_pos g1, i10, not_false_eq_true, if_true, tnc]
      rw [m_laysFar hI, bind_s]
      have e : f_X11_rings_32 zB (k : Int) 0 0 (LF M2) = some (((setB (ringB (M2 5) k) (M2 5 2).toNat : Nat) : Int), LF M2) := by
        refine up_loop0 (fun n i (s : Int) => f_X11_rings_32 n (k : Int) s (i : Int) (LF M2)) (fun i => ((setB (ringB (M2 5) k) i : Nat) : Int)) (M2 5 2).toNat _ 0 rfl ?_ ?_ (by omega)
        · intro n i hi
          have hi2 := Ic_k hI (k := i) (by omega)
          simp only [f_X11_rings_32, tn2, LF5]
          rw [if_neg (by omega)]
          simp (disch := omega) only [o_add_eq (x := 47), o_add_eq (x := 53), tp47, tp53]
          rw [if_pos (by omega), if_pos (by omega), m_isHeard (Lf_LF M2) (by omega) (by omega), bind_s, o_succ (by omega)]
          dsimp only
          rw [LF5]
          by_cases g : FD (M2 5) (M2 5 (47 + k)) (M2 5 (53 + i)) ≤ M2 5 3
          · simp only [g, if_true, i10, if_false]
            rw [o_or_set1 (by omega) (by simp [ringB, g])]
          · simp only [g, if_false, if_true]
            rw [o_or_set0 (by omega) (by simp [ringB, g])]
        · intro n
          simp only [f_X11_rings_32, tn2, LF5]
          rw [if_pos (by omega)]
      rw [e]
      exact m_fin (Qm_trans q2 (Qm_LF M2)) (LF5 M2) (LF_s s2)
    · rw [mcoup_f hI g1, bind_s]
      simp only [if_neg g1, i00, not_true_eq_false, if_false, m_refuse, bind_s]
      exact m_end q2 rfl
theorem a_answers (a1 : Int) : Alike (f_X10_answers a1) (f_X11_answers a1) := by
  refine alike_q (fun c => if 0 ≤ a1 ∧ a1 < c 2 then (if ansF c a1.toNat = -1 then -1 else if c (65 + a1.toNat) = 1 then ansF c a1.toNat else -1) else -1) (fun c => if 0 ≤ a1 ∧ a1 < c 2 then (if ansF c a1.toNat = -1 then 8 else if c (65 + a1.toNat) = 1 then 0 else 9) else 2) ?_ ?_
  · intro c M hI h9 hR
    have h2 := hI.2.2.1
    have hg := (Rh_iff.mp hR).1
    unfold f_X10_answers
    by_cases g1 : 0 ≤ a1 ∧ a1 < c 2
    · obtain ⟨k, rfl⟩ : ∃ w : Nat, a1 = (w : Int) := ⟨a1.toNat, by omega⟩
      rw [xcoup_t hg g1, bind_s]
      simp only [if_pos g1, i10, not_false_eq_true, if_true, tnc]
      obtain ⟨N, e, hN⟩ := x_answerOf hI hR g1.2
      rw [e, bind_s]
      dsimp only
      by_cases g2 : ansF c k = -1
      · rw [if_neg (fun h => h g2), x_fail, bind_s, if_pos g2, if_pos g2]
        exact x_end (Qx_Hm hN) hN.1
      · rw [if_pos g2, x_isHolding (Ib_of hI) (Rh_iff.mp hN.1).1 g1.2, bind_s, if_neg g2, if_neg g2]
        by_cases g3 : c (65 + k) = 1
        · simp only [if_pos g3, i10, if_false, x_answer, bind_s]
          exact x_end (Qx_Hm hN) hN.1
        · simp only [if_neg g3, if_true, x_fail, bind_s]
          exact x_end (Qx_Hm hN) hN.1
    · rw [xcoup_f hg g1, bind_s]
      simp only [if_neg g1, i00, not_true_eq_false, if_false, x_fail, bind_s]
      exact x_end (Qx_refl M) hR
  · intro P hI h9
    obtain ⟨M2, hM2, e5, q2, s2, hc, hf⟩ := MS_ok P
    rw [← e5] at hI
    have h1 := hI.2.2.1
    unfold f_X11_answers
    rw [zlet_eq, zlet_eq, hM2, ← e5]
    by_cases g1 : 0 ≤ a1 ∧ a1 < M2 5 2
    · obtain ⟨k, rfl⟩ : ∃ w : Nat, a1 = (w : Int) := ⟨a1.toNat, by omega⟩
      have hk := Ic_k hI g1.2
      have ha := ansF_r hI k
      rw [mcoup_t hI g1, bind_s]
      simp only [if_pos g1, i10, not_false_eq_true, if_true, tnc]
      rw [m_laysFar hI, bind_s, m_answerOf hI (LF5 M2) (Lf_LF M2) g1.2, bind_s]
      dsimp only
      by_cases g2 : ansF (M2 5) k = -1
      · rw [if_neg (by omega), m_refuse, bind_s, if_pos g2, if_pos g2]
        exact m_end (Qm_trans q2 (Qm_LF M2)) (LF5 M2)
      · have hL5 : LF M2 5 (65 + k) = M2 5 (65 + k) := by rw [LF5]
        rw [if_pos (by omega), if_neg g2, if_neg g2]
        simp (disch := omega) only [o_add_eq (x := 65), tp65]
        rw [if_pos (by omega)]
        by_cases g3 : M2 5 (65 + k) = 1
        · rw [if_pos (by omega), if_pos g3, if_pos g3]
          exact m_fin (Qm_trans q2 (Qm_LF M2)) (LF5 M2) (LF_s s2)
        · rw [if_neg (by omega), if_neg g3, if_neg g3, m_refuse, bind_s]
          exact m_end (Qm_trans q2 (Qm_LF M2)) (LF5 M2)
    · rw [mcoup_f hI g1, bind_s]
      simp only [if_neg g1, i00, not_true_eq_false, if_false, m_refuse, bind_s]
      exact m_end q2 rfl
/-- the first ROOM of a part -/
def fstB (c : Nat → Int) (p : Nat) : Nat → Bool
  | 0 => true
  | r + 1 => fstB c p r && decide (1000 ≤ fD c r p)
theorem fst_false {c : Nat → Int} {p : Nat} : ∀ {m n : Nat}, n ≤ m → fstB c p n = false → fstB c p m = false := by
  intro m
  induction m with
  | zero => intro n hn h; have : n = 0 := by omega
            subst this; exact h
  | succ m ih =>
    intro n hn h
    by_cases e : n = m + 1
    · subst e; exact h
    · have := ih (by omega) h
      simp [fstB, this]
def partsN (c : Nat → Int) : Nat := cntB (fun p => fstB c p p) (c 0).toNat
theorem x_firstOf {c : Nat → Int} {q : Nat} {M : AM} (hI : Ic c) (hR : Rh c q M) {p : Nat} (hp : (p : Int) < c 0) : Wp (f_X1_isFirstOfPart q (p : Int) M) (fun r => r.1 = (if fstB c p p then 1 else 0) ∧ Hm c q M r.2) := by
  have h0 := hI.1
  unfold f_X1_isFirstOfPart
  refine up_loopP0 (fun n i (s : AM) => f_X1_isFirstOfPart_2 n q (p : Int) (i : Int) s) (fun i s => fstB c p i = true ∧ Hm c q M s) _ p M ⟨rfl, Hm_refl hR⟩ ?_ ?_ (by omega)
  · rintro n i N hi ⟨h1, hN⟩
    obtain ⟨N2, e, hN2⟩ := x_distance hI hN.1 (x := (i : Int)) (y := (p : Int)) ⟨by omega, by omega⟩ ⟨by omega, hp⟩
    show (∃ s2 : AM, _ ∧ f_X1_isFirstOfPart_2 (n + 1) q (p : Int) (i : Int) N = _) ∨ Wp (f_X1_isFirstOfPart_2 (n + 1) q (p : Int) (i : Int) N) _
    simp only [f_X1_isFirstOfPart_2]
    rw [if_neg (by omega), e, bind_s]
    dsimp only
    have eF : FD c (i : Int) (p : Int) = fD c i p := by unfold FD; rw [tnc, tnc]
    rw [eF, o_succ (by omega)]
    by_cases g : 1000 ≤ fD c i p
    · rw [if_pos g]
      left
      exact ⟨N2, ⟨by simp [fstB, h1, g], Hm_trans hN hN2⟩, rfl⟩
    · rw [if_neg g]
      right
      have : fstB c p p = false := fst_false (n := i + 1) (by omega) (by simp [fstB, g])
      refine wp_some ⟨?_, Hm_trans hN hN2⟩
      show (0 : Int) = _
      rw [this]; rfl
  · rintro n N ⟨h1, hN⟩
    show Wp (f_X1_isFirstOfPart_2 (n + 1) q (p : Int) (p : Int) N) _
    simp only [f_X1_isFirstOfPart_2]
    rw [if_pos (by omega)]
    refine wp_some ⟨?_, hN⟩
    show (1 : Int) = _
    rw [h1]; rfl
theorem a_parts : Alike f_X10_parts f_X11_parts := by
  refine alike_q (fun c => ((partsN c : Nat) : Int)) (fun c => 0) ?_ ?_
  · intro c M hI h9 hR
    have h0 := hI.1
    unfold f_X10_parts
    have hw : Wp (f_X10_parts_4 zB 0 0 M) (fun r => r.1 = (partsN c : Nat) ∧ ∃ N, r.2 = am_upd N 15 0 0 ∧ Hm c 23 M N) := by
      refine up_loopP0 (fun n i (s : Int × AM) => f_X10_parts_4 n s.1 (i : Int) s.2) (fun i s => s.1 = (cntB (fun p => fstB c p p) i : Nat) ∧ Hm c 23 M s.2) _ (c 0).toNat (0, M) ⟨rfl, Hm_refl hR⟩ ?_ ?_ (by omega)
      · rintro n i ⟨s, N⟩ hi ⟨h1, hN⟩
        replace h1 : s = (cntB (fun p => fstB c p p) i : Nat) := h1
        replace hN : Hm c 23 M N := hN
        have e2 : N 23 2 = c 0 := hN.1.1.2.2.1
        have hle := cntB_le (fun p => fstB c p p) i
        left
        show ∃ s2 : Int × AM, _ ∧ f_X10_parts_4 (n + 1) s (i : Int) N = _
        simp only [f_X10_parts_4]
        obtain ⟨⟨v, N2⟩, e, h2, hN2⟩ := x_firstOf hI hN.1 (p := i) (by omega)
        replace h2 : v = _ := h2
        rw [if_neg (by omega), e, bind_s]
        dsimp only
        rw [h2, o_succ (by omega)]
        cases g : fstB c i i
        · simp only [Bool.false_eq_true, if_false, if_true]
          exact ⟨(s, N2), ⟨by show s = _; rw [h1]; simp [cntB, g], Hm_trans hN hN2⟩, rfl⟩
        · simp only [if_true, i10, if_false]
          rw [o_add_eq (by omega) (by omega)]
          exact ⟨(s + 1, N2), ⟨by show s + 1 = _; rw [h1]; simp [cntB, g], Hm_trans hN hN2⟩, rfl⟩
      · rintro n ⟨s, N⟩ ⟨h1, hN⟩
        replace h1 : s = (cntB (fun p => fstB c p p) (c 0).toNat : Nat) := h1
        replace hN : Hm c 23 M N := hN
        have e2 : N 23 2 = c 0 := hN.1.1.2.2.1
        show Wp (f_X10_parts_4 (n + 1) s (((c 0).toNat : Nat) : Int) N) _
        simp only [f_X10_parts_4]
        rw [if_pos (by omega), x_answer, bind_s]
        exact wp_some ⟨h1, N, rfl, hN⟩
    obtain ⟨⟨v, N'⟩, e, h1, N, hN', hN⟩ := hw
    replace h1 : v = _ := h1
    replace hN' : N' = am_upd N 15 0 0 := hN'
    rw [e, h1, hN']
    exact x_end (Qx_Hm hN) hN.1
  · intro P hI h9
    obtain ⟨M2, hM2, e5, q2, s2, hc, hf⟩ := MS_ok P
    rw [← e5] at hI
    have h0 := hI.1
    unfold f_X11_parts
    rw [zlet_eq, zlet_eq, hM2, ← e5, m_laysFar hI, bind_s]
    have e : f_X11_parts_18 zB 0 0 (LF M2) = some (((partsN (M2 5) : Nat) : Int), LF M2) := by
      refine up_loop0 (fun n i (s : Int) => f_X11_parts_18 n s (i : Int) (LF M2)) (fun i => ((cntB (fun p => fstB (M2 5) p p) i : Nat) : Int)) (M2 5 0).toNat _ 0 rfl ?_ ?_ (by omega)
      · intro n i hi
        have hle := cntB_le (fun p => fstB (M2 5) p p) i
        simp only [f_X11_parts_18, tn0, LF5]
        rw [if_neg (by omega)]
        have e2 : f_X11_parts_33 (f_X11_parts_18 n) zB ((cntB (fun p => fstB (M2 5) p p) i : Nat) : Int) (i : Int) 1 0 (LF M2) = f_X11_parts_18 n ((cntB (fun p => fstB (M2 5) p p) (i + 1) : Nat) : Int) ((i + 1 : Nat) : Int) (LF M2) := by
          refine up_loop0 (fun m j (s : Int) => f_X11_parts_33 (f_X11_parts_18 n) m ((cntB (fun p => fstB (M2 5) p p) i : Nat) : Int) (i : Int) s (j : Int) (LF M2)) (fun j => if fstB (M2 5) i j then 1 else 0) i _ 1 rfl ?_ ?_ (by omega)
          · intro m j hj
            simp only [f_X11_parts_33]
            rw [if_neg (by omega)]
            have eF : FD (M2 5) (i : Int) (j : Int) = fD (M2 5) j i := by unfold FD; rw [tnc, tnc, fD_s hI]
            cases g : fstB (M2 5) i j
            · simp only [Bool.false_eq_true, if_false, if_true]
              rw [o_succ (by omega)]
              simp [fstB, g]
            · simp only [if_true, i10, if_false]
              rw [m_farOf (Lf_LF M2) (by omega) (by omega), bind_s]
              dsimp only
              rw [eF, o_succ (by omega)]
              by_cases g2 : fD (M2 5) j i < 1000
              · rw [if_pos g2]
                have : ¬ 1000 ≤ fD (M2 5) j i := by omega
                simp [fstB, g, this]
              · rw [if_neg g2]
                have : 1000 ≤ fD (M2 5) j i := by omega
                simp [fstB, g, this]
          · intro m
            simp only [f_X11_parts_33]
            rw [if_pos (by omega), o_succ (by omega)]
            cases g : fstB (M2 5) i i
            · simp only [Bool.false_eq_true, if_false, if_true]
              rw [o_add_eq (by omega) (by omega)]
              congr 1
              simp [cntB, g]
            · simp only [if_true, i10, if_false]
              rw [o_add_eq (by omega) (by omega)]
              congr 1
              simp [cntB, g]
        exact e2
      · intro n
        simp only [f_X11_parts_18, tn0, LF5]
        rw [if_pos (by omega)]
        rfl
    rw [e]
    exact m_fin (Qm_trans q2 (Qm_LF M2)) (LF5 M2) (LF_s s2)
theorem shl1_b {n : Int} (h : 0 ≤ n ∧ n ≤ 10) : o_shl 1 n = ((2 ^ n.toNat : Nat) : Int) ∧ 1 ≤ 2 ^ n.toNat ∧ 2 ^ n.toNat ≤ 1024 := by
  obtain ⟨k, rfl⟩ : ∃ k : Nat, n = (k : Int) := ⟨n.toNat, by omega⟩
  rw [tnc, o_shl_one' (by omega)]
  exact ⟨rfl, Nat.one_le_two_pow, Nat.le_trans (Nat.pow_le_pow_right (by omega) (show k ≤ 10 by omega)) (by decide)⟩
def pulB (c : Nat → Int) (a : Int) (p : Nat) : Bool := decide (((heardN c (p : Int) : Nat) : Int) = a)
theorem a_pulled (a1 : Int) : Alike (f_X10_pulled a1) (f_X11_pulled a1) := by
  refine alike_q (fun c => if 0 ≤ a1 ∧ a1 < ((2 ^ (c 0).toNat : Nat) : Int) then ((setB (pulB c a1) (c 0).toNat : Nat) : Int) else -1) (fun c => if 0 ≤ a1 ∧ a1 < ((2 ^ (c 0).toNat : Nat) : Int) then 0 else 5) ?_ ?_
  · intro c M hI h9 hR
    have h0 := hI.1
    have hsh := shl1_b (n := c 0) (by omega)
    have hg := (Rh_iff.mp hR).1
    unfold f_X10_pulled f_X10_pulled_17
    rw [hg.1.2.2.1, hsh.1]
    by_cases g1 : 0 ≤ a1 ∧ a1 < ((2 ^ (c 0).toNat : Nat) : Int)
    · rw [if_neg (by omega), if_pos g1.2, if_pos g1, if_pos g1]
      have hw : Wp (f_X10_pulled_27 zB a1 0 0 M) (fun r => r.1 = (setB (pulB c a1) (c 0).toNat : Nat) ∧ ∃ N, r.2 = am_upd N 15 0 0 ∧ Hm c 23 M N) := by
        refine up_loopP0 (fun n i (s : Int × AM) => f_X10_pulled_27 n a1 s.1 (i : Int) s.2) (fun i s => s.1 = (setB (pulB c a1) i : Nat) ∧ Hm c 23 M s.2) _ (c 0).toNat (0, M) ⟨rfl, Hm_refl hR⟩ ?_ ?_ (by omega)
        · rintro n i ⟨s, N⟩ hi ⟨h1, hN⟩
          replace h1 : s = (setB (pulB c a1) i : Nat) := h1
          replace hN : Hm c 23 M N := hN
          have e2 : N 23 2 = c 0 := hN.1.1.2.2.1
          left
          show ∃ s2 : Int × AM, _ ∧ f_X10_pulled_27 (n + 1) a1 s (i : Int) N = _
          simp only [f_X10_pulled_27]
          obtain ⟨⟨v, N2⟩, e, h2, hN2⟩ := x_heardSet hI hN.1 (p := (i : Int)) ⟨by omega, by omega⟩
          replace h2 : v = _ := h2
          rw [if_neg (by omega), e, bind_s]
          dsimp only
          rw [h2, o_succ (by omega)]
          by_cases g : ((heardN c (i : Int) : Nat) : Int) = a1
          · rw [if_neg (fun h => h g)]
            exact ⟨(o_or s (o_shl 1 (i : Int)), N2), ⟨by show o_or s (o_shl 1 (i : Int)) = _; rw [h1, o_or_set1 (by omega) (by simp [pulB, g])], Hm_trans hN hN2⟩, rfl⟩
          · rw [if_pos g]
            exact ⟨(s, N2), ⟨by show s = _; rw [h1, set_skip (p := pulB c a1) (n := i) (by simp [pulB, g])], Hm_trans hN hN2⟩, rfl⟩
        · rintro n ⟨s, N⟩ ⟨h1, hN⟩
          replace h1 : s = (setB (pulB c a1) (c 0).toNat : Nat) := h1
          replace hN : Hm c 23 M N := hN
          have e2 : N 23 2 = c 0 := hN.1.1.2.2.1
          show Wp (f_X10_pulled_27 (n + 1) a1 s (((c 0).toNat : Nat) : Int) N) _
          simp only [f_X10_pulled_27]
          rw [if_pos (by omega), x_answer, bind_s]
          exact wp_some ⟨h1, N, rfl, hN⟩
      obtain ⟨⟨v, N'⟩, e, h1, N, hN', hN⟩ := hw
      replace h1 : v = _ := h1
      replace hN' : N' = am_upd N 15 0 0 := hN'
      rw [e, h1, hN']
      exact x_end (Qx_Hm hN) hN.1
    · rw [if_neg g1, if_neg g1]
      by_cases g2 : a1 < 0
      · rw [if_pos g2, x_fail, bind_s]
        exact x_end (Qx_refl M) hR
      · rw [if_neg g2, if_neg (by omega), x_fail, bind_s]
        exact x_end (Qx_refl M) hR
  · intro P hI h9
    obtain ⟨M2, hM2, e5, q2, s2, hc, hf⟩ := MS_ok P
    rw [← e5] at hI
    have h0 := hI.1
    have hsh := shl1_b (n := M2 5 0) (by omega)
    unfold f_X11_pulled
    rw [zlet_eq, zlet_eq, hM2, ← e5, tn0, hsh.1, o_sub_eq (by omega) (by omega)]
    by_cases g1 : 0 ≤ a1 ∧ a1 < ((2 ^ (M2 5 0).toNat : Nat) : Int)
    · rw [isin_t (by omega), bind_s, if_pos g1, if_pos g1]
      simp only [i10, not_false_eq_true, if_true]
      rw [m_laysFar hI, bind_s]
      have e : f_X11_pulled_44 zB a1 0 0 (LF M2) = some (((setB (pulB (M2 5) a1) (M2 5 0).toNat : Nat) : Int), LF M2) := by
        refine up_loop0 (fun n i (s : Int) => f_X11_pulled_44 n a1 s (i : Int) (LF M2)) (fun i => ((setB (pulB (M2 5) a1) i : Nat) : Int)) (M2 5 0).toNat _ 0 rfl ?_ ?_ (by omega)
        · intro n i hi
          simp only [f_X11_pulled_44, tn0, LF5]
          rw [if_neg (by omega), m_heardIn hI (LF5 M2) (Lf_LF M2) ⟨by omega, by omega⟩, bind_s, o_succ (by omega)]
          dsimp only
          by_cases g : ((heardN (M2 5) (i : Int) : Nat) : Int) = a1
          · rw [if_neg (fun h => h g), o_or_set1 (by omega) (by simp [pulB, g])]
          · rw [if_pos g, o_or_set0 (by omega) (by simp [pulB, g])]
        · intro n
          simp only [f_X11_pulled_44, tn0, LF5]
          rw [if_pos (by omega)]
      rw [e]
      exact m_fin (Qm_trans q2 (Qm_LF M2)) (LF5 M2) (LF_s s2)
    · rw [isin_f (by omega), bind_s, if_neg g1, if_neg g1]
      simp only [i00, not_true_eq_false, if_false, m_refuse, bind_s]
      exact m_end q2 rfl
def crosB (c : Nat → Int) (p : Int) (k : Nat) : Bool := decide (c (65 + k) = 1 ∧ FD c p (c (53 + k)) ≤ c 3 ∧ ¬ ansF c k = -1 ∧ ¬ ansF c k = (k : Int))
theorem a_crossed (a1 : Int) : Alike (f_X10_crossed a1) (f_X11_crossed a1) := by
  refine alike_q (fun c => if 0 ≤ a1 ∧ a1 < c 0 then ((setB (crosB c a1) (c 2).toNat : Nat) : Int) else -1) (fun c => if 0 ≤ a1 ∧ a1 < c 0 then 0 else 2) ?_ ?_
  · intro c M hI h9 hR
    have h2 := hI.2.2.1
    have hg := (Rh_iff.mp hR).1
    unfold f_X10_crossed
    by_cases g1 : 0 ≤ a1 ∧ a1 < c 0
    · rw [xroom_t hg g1, bind_s]
      simp only [if_pos g1, i10, not_false_eq_true, if_true]
      have hw : Wp (f_X10_crossed_21 zB a1 0 0 M) (fun r => r.1 = (setB (crosB c a1) (c 2).toNat : Nat) ∧ ∃ N, r.2 = am_upd N 15 0 0 ∧ Hm c 23 M N) := by
        refine up_loopP0 (fun n i (s : Int × AM) => f_X10_crossed_21 n a1 s.1 (i : Int) s.2) (fun i s => s.1 = (setB (crosB c a1) i : Nat) ∧ Hm c 23 M s.2) _ (c 2).toNat (0, M) ⟨rfl, Hm_refl hR⟩ ?_ ?_ (by omega)
        · rintro n i ⟨s, N⟩ hi ⟨h1, hN⟩
          replace h1 : s = (setB (crosB c a1) i : Nat) := h1
          replace hN : Hm c 23 M N := hN
          have hi2 := Ic_k hI (k := i) (by omega)
          have hgN := (Rh_iff.mp hN.1).1
          have e28 : N 28 i = c (53 + i) := (hgN.2.2.1 i (by omega)).2.1
          have e4 : N 23 4 = c 2 := hgN.1.2.2.2.2.1
          left
          show ∃ s2 : Int × AM, _ ∧ f_X10_crossed_21 (n + 1) a1 s (i : Int) N = _
          simp only [f_X10_crossed_21, tnc, e28]
          obtain ⟨N2, e, hN2⟩ := x_distance hI hN.1 (x := a1) (y := c (53 + i)) g1 hi2.2.1
          have hp0 : N2 23 0 = c 3 := hN2.1.1.1
          rw [if_neg (by omega), if_pos (by omega), e, bind_s]
          dsimp only
          have hskip : ∀ N3, Hm c 23 N2 N3 → crosB c a1 i = false → ∃ s2 : Int × AM, (s2.1 = (setB (crosB c a1) (i + 1) : Nat) ∧ Hm c 23 M s2.2) ∧ f_X10_crossed_21 n a1 s (o_add (i : Int) 1) N3 = f_X10_crossed_21 n a1 s2.1 ((i + 1 : Nat) : Int) s2.2 := by
            intro N3 hN3 hb
            exact ⟨(s, N3), ⟨by show s = _; rw [h1, set_skip (p := crosB c a1) (n := i) hb], Hm_trans (Hm_trans hN hN2) hN3⟩, by rw [o_succ (by omega)]⟩
          unfold f_X10_crossed_64
          by_cases g : FD c a1 (c (53 + i)) ≤ c 3
          · rw [if_neg (by omega), if_neg (by omega), x_isHolding (Ib_of hI) (Rh_iff.mp hN2.1).1 (by omega), bind_s]
            by_cases g3 : c (65 + i) = 1
            · simp only [if_pos g3, i10, if_false]
              obtain ⟨N3, e3, hN3⟩ := x_answerOf hI hN2.1 (k := i) (by omega)
              unfold f_X1_answersAnother
              rw [e3, bind_s]
              dsimp only
              by_cases g4 : ansF c i = -1
              · rw [if_pos g4, bind_s]
                simp only [if_true]
                exact hskip N3 hN3 (by simp [crosB, g4])
              · rw [if_neg g4]
                by_cases g5 : ansF c i = (i : Int)
                · rw [if_pos g5, bind_s]
                  simp only [if_true]
                  exact hskip N3 hN3 (by simp [crosB, g5])
                · rw [if_neg g5, bind_s]
                  simp only [i10, if_false]
                  refine ⟨(o_or s (o_shl 1 (i : Int)), N3), ⟨?_, Hm_trans (Hm_trans hN hN2) hN3⟩, by rw [o_succ (by omega)]⟩
                  show o_or s (o_shl 1 (i : Int)) = _
                  rw [h1, o_or_set1 (by omega) (by simp [crosB, g, g3, g4, g5])]
            · simp only [if_neg g3, if_true]
              exact hskip N2 (Hm_refl hN2.1) (by simp [crosB, g3])
          · rw [if_pos (by omega), if_pos rfl]
            exact hskip N2 (Hm_refl hN2.1) (by simp [crosB, g])
        · rintro n ⟨s, N⟩ ⟨h1, hN⟩
          replace h1 : s = (setB (crosB c a1) (c 2).toNat : Nat) := h1
          replace hN : Hm c 23 M N := hN
          have e4 : N 23 4 = c 2 := hN.1.1.2.2.2.2.1
          show Wp (f_X10_crossed_21 (n + 1) a1 s (((c 2).toNat : Nat) : Int) N) _
          simp only [f_X10_crossed_21]
          rw [if_pos (by omega), x_answer, bind_s]
          exact wp_some ⟨h1, N, rfl, hN⟩
      obtain ⟨⟨v, N'⟩, e, h1, N, hN', hN⟩ := hw
      replace h1 : v = _ := h1
      replace hN' : N' = am_upd N 15 0 0 := hN'
      rw [e, h1, hN']
      exact x_end (Qx_Hm hN) hN.1
    · rw [xroom_f hg g1, bind_s]
      simp only [if_neg g1, i00, not_true_eq_false, if_false, x_fail, bind_s]
      exact x_end (Qx_refl M) hR
  · intro P hI h9
    obtain ⟨M2, hM2, e5, q2, s2, hc, hf⟩ := MS_ok P
    rw [← e5] at hI
    have h1 := hI.2.2.1
    have h0 := hI.1
    unfold f_X11_crossed
    rw [zlet_eq, zlet_eq, hM2, ← e5]
    by_cases g1 : 0 ≤ a1 ∧ a1 < M2 5 0
    · rw [mroom_t hI g1, bind_s]
      simp only [if_pos g1, i10, not_false_eq_true, if_true]
      rw [m_laysFar hI, bind_s]
      have e : f_X11_crossed_32 zB a1 0 0 (LF M2) = some (((setB (crosB (M2 5) a1) (M2 5 2).toNat : Nat) : Int), LF M2) := by
        refine up_loop0 (fun n i (s : Int) => f_X11_crossed_32 n a1 s (i : Int) (LF M2)) (fun i => ((setB (crosB (M2 5) a1) i : Nat) : Int)) (M2 5 2).toNat _ 0 rfl ?_ ?_ (by omega)
        · intro n i hi
          have hi2 := Ic_k hI (k := i) (by omega)
          have ha := ansF_r hI i
          simp only [f_X11_crossed_32, tn2, LF5]
          rw [if_neg (by omega)]
          simp (disch := omega) only [o_add_eq (x := 65), o_add_eq (x := 53), tp65, tp53]
          rw [if_pos (by omega)]
          unfold f_X11_crossed_81
          by_cases g3 : M2 5 (65 + i) = 1
          · rw [if_neg (fun h => h g3), if_pos (by omega), m_isHeard (Lf_LF M2) (by omega) (by omega), bind_s, LF5]
            by_cases g : FD (M2 5) a1 (M2 5 (53 + i)) ≤ M2 5 3
            · simp only [if_pos g, i10, if_false]
              rw [m_answerOf hI (LF5 M2) (Lf_LF M2) (by omega), bind_s]
              dsimp only
              by_cases g4 : ansF (M2 5) i = -1
              · rw [if_pos (by omega), o_or_set0 (by omega) (by simp [crosB, g4]), o_succ (by omega)]
              · rw [if_neg (by omega)]
                by_cases g5 : ansF (M2 5) i = (i : Int)
                · rw [if_pos g5, o_or_set0 (by omega) (by simp [crosB, g5]), o_succ (by omega)]
                · rw [if_neg g5, o_or_set1 (by omega) (by simp [crosB, g, g3, g4, g5]), o_succ (by omega)]
            · simp only [if_neg g, if_true]
              rw [if_pos (by omega), o_or_set0 (by omega) (by simp [crosB, g]), o_succ (by omega)]
          · rw [if_pos g3, if_pos (by omega), o_or_set0 (by omega) (by simp [crosB, g3]), o_succ (by omega)]
        · intro n
          simp only [f_X11_crossed_32, tn2, LF5]
          rw [if_pos (by omega)]
      rw [e]
      exact m_fin (Qm_trans q2 (Qm_LF M2)) (LF5 M2) (LF_s s2)
    · rw [mroom_f hI g1, bind_s]
      simp only [if_neg g1, i00, not_true_eq_false, if_false, m_refuse, bind_s]
      exact m_end q2 rfl
