/-! LASTS, the model -/
theorem rung_cutV {c : Nat → Int} (hI : Ic c) {s : Nat} {k : Nat} : rungB (cutV c s (c 1).toNat) k = rungB (cW c (dif (wholeN c) s) 0) k := by
  by_cases hk : k < 12
  · unfold rungB FD
    rw [fD_cutV hI, cutV_lo (by omega), cutV_lo (by omega), cutV_lo (by omega), cW_lo c _ _ (by omega), cW_lo c _ _ (by omega), cW_lo c _ _ (by omega)]
  · unfold rungB FD
    rw [fD_cutV hI, cutV_lo (by omega), cutV_lo (by omega), cutV_lo (by omega), cW_lo c _ _ (by omega), cW_lo c _ _ (by omega), cW_lo c _ _ (by omega)]
/-- the cells while the wires are laid -/
def LI (c : Nat → Int) (s i : Nat) (N : AM) : Prop :=
  (∀ j, j < 37 ∨ 47 ≤ j → N 5 j = c j) ∧ (∀ w, w < 10 → (wholeN c).testBit w = false → N 5 (37 + w) = c (37 + w)) ∧ (∀ w, w < i → (wholeN c).testBit w = true → N 5 (37 + w) = if s.testBit w then 0 else 1)
theorem whole_hi {c : Nat → Int} {w : Nat} (h : (c 1).toNat ≤ w) : (wholeN c).testBit w = false := by
  unfold wholeN
  rw [setB_bit, decide_eq_false (by omega), Bool.false_and]
theorem LI_end {c : Nat → Int} (hI : Ic c) {s : Nat} {N : AM} (hs : s &&& wholeN c = s) (h : LI c s (c 1).toNat N) : N 5 = cutV c s (c 1).toNat := by
  have h1 := hI.2.1
  obtain ⟨a, b, d⟩ := h
  funext j
  by_cases hj : j < 37 ∨ 47 ≤ j
  · rw [a j hj, cutV_lo hj]
  · obtain ⟨w, rfl⟩ : ∃ w, j = 37 + w := ⟨j - 37, by omega⟩
    rw [cutV_wh (by omega)]
    cases hw : (wholeN c).testBit w
    · have hsw : s.testBit w = false := by
        rw [← hs, Nat.testBit_and, hw, Bool.and_false]
      rw [b w (by omega) hw, hsw]
      simp
    · have hl : w < (c 1).toNat := by
        by_cases e : w < (c 1).toNat
        · exact e
        · rw [whole_hi (by omega)] at hw; cases hw
      have hc := of_decide_eq_true ((whole_bit hl).symm.trans hw)
      rw [d w hl hw, hc]
      cases s.testBit w
      · simp
      · simp [hl]
def pW (c : Nat → Int) (s : Nat) (a w : Nat) : Nat := if (wholeN c).testBit w then (if s.testBit w then a * (c 4).toNat else a * (16 - (c 4).toNat)) else a
def pP (c : Nat → Int) (s i : Nat) : Nat := rg i (pW c s) 1
theorem pP_succ (c : Nat → Int) (s i : Nat) : pP c s (i + 1) = pW c s (pP c s i) i := by unfold pP; rw [rg_succ]
theorem pP_eq {c : Nat → Int} {s : Nat} (hs : s &&& wholeN c = s) : ∀ i, cntB s.testBit i ≤ cntB (wholeN c).testBit i ∧ pP c s i = (c 4).toNat ^ cntB s.testBit i * (16 - (c 4).toNat) ^ (cntB (wholeN c).testBit i - cntB s.testBit i)
  | 0 => by simp [pP, rg, cntB]
  | i + 1 => by
    obtain ⟨h1, h2⟩ := pP_eq hs i
    rw [pP_succ]
    have hb : s.testBit i = (s.testBit i && (wholeN c).testBit i) := by rw [← Nat.testBit_and, hs]
    unfold pW cntB
    cases e : (wholeN c).testBit i
    · have e2 : s.testBit i = false := by rw [hb, e, Bool.and_false]
      simp only [e2, Bool.false_eq_true, if_false, Nat.add_zero]
      exact ⟨h1, h2⟩
    · cases e2 : s.testBit i
      · simp only [Bool.false_eq_true, if_false, if_true, Nat.add_zero]
        refine ⟨by omega, ?_⟩
        rw [h2, show cntB (wholeN c).testBit i + 1 - cntB s.testBit i = (cntB (wholeN c).testBit i - cntB s.testBit i) + 1 by omega, Nat.pow_succ, Nat.mul_assoc]
      · simp only [if_true]
        refine ⟨by omega, ?_⟩
        rw [h2, show cntB (wholeN c).testBit i + 1 - (cntB s.testBit i + 1) = (cntB (wholeN c).testBit i - cntB s.testBit i) by omega, Nat.pow_succ, Nat.mul_right_comm]
theorem cnt_top {p : Nat → Bool} {n : Nat} (h : ∀ i, n ≤ i → p i = false) : ∀ d, cntB p (n + d) = cntB p n
  | 0 => rfl
  | d + 1 => by
    show cntB p (n + d) + (if p (n + d) then 1 else 0) = cntB p n
    rw [h (n + d) (by omega), cnt_top h d]
    rfl
theorem pP_all {c : Nat → Int} (hI : Ic c) {s : Nat} (hs : s &&& wholeN c = s) : pP c s (c 1).toNat = lW c s := by
  have h1 := hI.2.1
  rw [(pP_eq hs _).2]
  unfold lW pc
  have a1 := cnt_top (p := (wholeN c).testBit) (n := (c 1).toNat) (fun i hi => whole_hi hi) (10 - (c 1).toNat)
  have a2 := cnt_top (p := s.testBit) (n := (c 1).toNat) (fun i hi => by rw [← hs, Nat.testBit_and, whole_hi hi, Bool.and_false]) (10 - (c 1).toNat)
  rw [show (c 1).toNat + (10 - (c 1).toNat) = 10 by omega] at a1 a2
  rw [a1, a2]
theorem pP_b {c : Nat → Int} (hI : Ic c) {s : Nat} (hs : s &&& wholeN c = s) {i : Nat} (hi : i ≤ 10) : pP c s i ≤ 1099511627776 := by
  have h4 := hI.2.2.2.2.1
  obtain ⟨h1, h2⟩ := pP_eq hs i
  have := cntB_le (wholeN c).testBit i
  rw [h2]
  exact mul_pow_b (by omega) (by omega) (by omega)
theorem m_lasts99 {c : Nat → Int} (hI : Ic c) (k75 : Int → Int → Int → Int → Int → AM → Option (Int × AM)) {k s : Nat} (hk : (k : Int) < c 2) (hs : s &&& wholeN c = s) (a3 a5 : Int) {N : AM} (hN : LI c s 0 N) (hz : 0 ≤ a3 ∧ a3 + 1099511627776 < 9223372036854775808) :
    ∃ N2, f_X11_lasts_99 k75 zB (k : Int) ((wholeN c : Nat) : Int) a3 a5 (s : Int) 1 0 N = k75 (k : Int) ((wholeN c : Nat) : Int) (if rungB (cutV c s (c 1).toNat) k then a3 + ((lW c s : Nat) : Int) else a3) a5 ((s + 1 : Nat) : Int) N2 ∧ (∀ s2, LI c s2 0 N2) ∧ Eo [5, 9] N N2 := by
  have h1 := hI.2.1
  have h2 := hI.2.2.1
  have h4 := hI.2.2.2.2.1
  have hwn : wholeN c < 1024 := lt1024 (n := (c 1).toNat) (by omega) (setB_lt _ _)
  have hsw : s ≤ wholeN c := by rw [← hs]; exact Nat.and_le_right
  obtain ⟨q, hq⟩ : ∃ q : Nat, c 4 = (q : Int) := ⟨(c 4).toNat, by omega⟩
  have hlw := lW_b hI (sub_pc hs)
  refine up_loopE0 (fun n i (t : AM) => f_X11_lasts_99 k75 n (k : Int) ((wholeN c : Nat) : Int) a3 a5 (s : Int) ((pP c s i : Nat) : Int) (i : Int) t) (fun i t => LI c s i t ∧ Eo [5, 9] N t)
    (fun o => ∃ N2, o = k75 (k : Int) ((wholeN c : Nat) : Int) (if rungB (cutV c s (c 1).toNat) k then a3 + ((lW c s : Nat) : Int) else a3) a5 ((s + 1 : Nat) : Int) N2 ∧ (∀ s2, LI c s2 0 N2) ∧ Eo [5, 9] N N2) (c 1).toNat N ⟨hN, Eo_refl _ _⟩ ?_ ?_ (by omega)
  · rintro n i t hi ⟨⟨b1, b2, b3⟩, hE⟩
    have e1 : t 5 1 = c 1 := b1 1 (by omega)
    have e4 : t 5 4 = c 4 := b1 4 (by omega)
    have hpb := pP_b hI hs (i := i) (by omega)
    have hpb2 := pP_b hI hs (i := i + 1) (by omega)
    rw [pP_succ] at hpb2
    left
    show ∃ s2 : AM, _ ∧ f_X11_lasts_99 k75 (n + 1) (k : Int) ((wholeN c : Nat) : Int) a3 a5 (s : Int) ((pP c s i : Nat) : Int) (i : Int) t = f_X11_lasts_99 k75 n (k : Int) ((wholeN c : Nat) : Int) a3 a5 (s : Int) ((pP c s (i + 1) : Nat) : Int) ((i + 1 : Nat) : Int) s2
    simp only [f_X11_lasts_99, tn1, e1]
    rw [if_neg (by omega), m_has hwn (by omega), bind_s, pP_succ]
    unfold pW at hpb2 ⊢
    cases hw : (wholeN c).testBit i
    · simp only [Bool.false_eq_true, if_false, not_true_eq_false]
      rw [o_succ (by omega)]
      refine ⟨t, ⟨⟨b1, b2, fun w hwi hwb => ?_⟩, hE⟩, rfl⟩
      by_cases e : w = i
      · subst e; rw [hw] at hwb; cases hwb
      · exact b3 w (by omega) hwb
    · simp only [if_true, i10, not_false_eq_true]
      rw [hw] at hpb2
      simp only [if_true] at hpb2
      rw [m_has (by omega) (by omega), bind_s]
      have hnew : ∀ v : Int, v = (if s.testBit i then 0 else 1) → LI c s (i + 1) (am_upd t 5 (37 + i) v) ∧ Eo [5, 9] N (am_upd t 5 (37 + i) v) := by
        intro v hv
        refine ⟨⟨fun j hj => ?_, fun w hw1 hw2 => ?_, fun w hwi hwb => ?_⟩, fun a ha => ?_⟩
        · rw [am_upd_ne (by omega)]; exact b1 j hj
        · have : w ≠ i := by rintro rfl; rw [hw] at hw2; cases hw2
          rw [am_upd_ne (by omega)]; exact b2 w hw1 hw2
        · by_cases e : w = i
          · subst e; rw [am_upd_self]; exact hv
          · rw [am_upd_ne (by omega)]; exact b3 w (by omega) hwb
        · rw [am_upd_cell (by rintro rfl; exact ha (by simp))]; exact hE a ha
      cases hsb : s.testBit i
      · rw [hsb] at hpb2
        simp only [Bool.false_eq_true, if_false, if_true] at hpb2 ⊢
        have e4' : am_upd t 5 (37 + i) 1 5 4 = c 4 := by rw [am_upd_ne (by omega)]; exact e4
        have eM : ((pP c s i : Nat) : Int) * (16 - (q : Int)) = ((pP c s i * (16 - q) : Nat) : Int) := by rw [Int.natCast_mul, show (16 : Int) - (q : Int) = ((16 - q : Nat) : Int) by omega]
        rw [hq, tnc] at hpb2
        unfold f_X11_lasts_146
        simp (disch := omega) only [o_add_eq, tp37]
        rw [if_pos (by omega), zlet_eq, m_has (by omega) (by omega), bind_s, hsb]
        simp only [Bool.false_eq_true, if_false, if_true, tn4]
        rw [e4', hq, o_sub_eq (by omega) (by omega), l_mul_eq (by omega) (by omega), eM]
        refine ⟨_, hnew 1 (by rw [hsb]; rfl), by rw [tnc]; rfl⟩
      · rw [hsb] at hpb2
        simp only [if_true, i10, if_false] at hpb2 ⊢
        have e4' : am_upd t 5 (37 + i) 0 5 4 = c 4 := by rw [am_upd_ne (by omega)]; exact e4
        have eM : ((pP c s i : Nat) : Int) * (q : Int) = ((pP c s i * q : Nat) : Int) := by rw [Int.natCast_mul]
        rw [hq, tnc] at hpb2
        unfold f_X11_lasts_146
        simp (disch := omega) only [o_add_eq, tp37]
        rw [if_pos (by omega), zlet_eq, m_has (by omega) (by omega), bind_s, hsb]
        simp only [if_true, i10, if_false, tn4]
        rw [e4', hq, l_mul_eq (by omega) (by omega), eM]
        refine ⟨_, hnew 0 (by rw [hsb]; rfl), by rw [tnc]; rfl⟩
  · rintro n t ⟨hL, hE⟩
    have h5 := LI_end hI hs hL
    have e1 : t 5 1 = c 1 := hL.1 1 (by omega)
    have hIt : Ic (t 5) := by rw [h5]; exact Ic_cutV hI _ _
    have hc2 : cutV c s (c 1).toNat 2 = c 2 := cutV_lo (by omega)
    have hr : rungN (cutV c s (c 1).toNat) < 1024 := lt1024 (n := (cutV c s (c 1).toNat 2).toNat) (by omega) (setB_lt _ _)
    show ∃ N2, f_X11_lasts_99 k75 (n + 1) (k : Int) ((wholeN c : Nat) : Int) a3 a5 (s : Int) ((pP c s (c 1).toNat : Nat) : Int) (((c 1).toNat : Nat) : Int) t = _ ∧ _
    simp only [f_X11_lasts_99, tn1, e1]
    rw [if_pos (by omega), m_rung hIt, bind_s, h5]
    dsimp only
    rw [m_has hr (by omega), bind_s, rungN_bit (by rw [hc2]; exact hk), o_succ (by omega), pP_all hI hs]
    refine ⟨LF t, ?_, fun s2 => ⟨fun j hj => ?_, fun w hw1 hw2 => ?_, fun w hw => by omega⟩, Eo_trans hE (Eo_sub (LF_Eo t) (by simp))⟩
    · cases rungB (cutV c s (c 1).toNat) k
      · simp only [Bool.false_eq_true, if_false, if_true]
        rw [l_add_eq (by omega) (by omega), Int.add_zero]
      · simp only [if_true, i10, if_false]
        rw [l_add_eq (by omega) (by omega)]
    · rw [LF5]; exact hL.1 j hj
    · rw [LF5]; exact hL.2.1 w hw1 hw2
