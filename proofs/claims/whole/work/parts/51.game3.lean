theorem rowP_start {c : Nat → Int} (hI : Ic c) : rowP c (wholeN c) 0 c := by
  refine ⟨fun _ _ => rfl, fun w hw => ⟨?_, ?_⟩⟩
  · have hIw := Ic_w hI hw
    rw [whole_bit (by omega)]
    by_cases g : c (37 + w) = 1
    · simp [g]
    · have : c (37 + w) = 0 := by omega
      simp [this]
  · rw [Nat.zero_testBit]; rfl
theorem playP_2 (c : Nat → Int) (r : Nat) (b : Bool) (wh md : Nat) : 0 ≤ (playP c (r + 1) b wh md).2 ∧ (playP c (r + 1) b wh md).2 ≤ (((c 1).toNat : Nat) : Int) := by
  rw [playP_succ]
  rcases stepP_inv (alP c b wh md) (valP c r b wh md) b ((c 1).toNat + 1) with ⟨h1, _⟩ | ⟨u, h1, h2, h3, h4⟩
  · have := h1 (c 1).toNat (by omega)
    rw [alP_top] at this; cases this
  · rw [h3]
    exact ⟨by show 0 ≤ (u : Int); omega, by show (u : Int) ≤ _; omega⟩
/-- what is told of the game -/
def GT (c : Nat → Int) (r : Nat) (N : AM) : Prop := N 63 1 = (playP c r true (wholeN c) 0).1 ∧ (0 < r → N 63 2 = if (playP c r true (wholeN c) 0).2 = (((c 1).toNat : Nat) : Int) then -1 else (playP c r true (wholeN c) 0).2)
theorem Rg_6364 {c : Nat → Int} {M N : AM} (h : Eo [63, 64] M N) (hR : Rg c 23 M) : Rg c 23 N := by
  have h23 : N 23 = M 23 := h 23 (by simp)
  exact Rg_cong (fun i hi => by rw [h23]) (fun i h1 h2 => h _ (by simp; omega)) hR
theorem x_playOut {c : Nat → Int} {M : AM} (hI : Ic c) (hR : Rg c 23 M) {r : Nat} (hr : r ≤ 3) : ∃ N, f_X7_playOut (r : Int) M = some N ∧ GT c r N ∧ Eo [63, 64] M N := by
  have h1 := hI.2.1
  have h2 := hI.2.2.1
  have hwn : wholeN c < 1024 := lt1024 (n := (c 1).toNat) (by omega) (setB_lt _ _)
  have hE1 : Eo [63, 64] M (am_upd M 63 2 (-1)) := Eo_upd _ _ (by simp) (Eo_refl _ _)
  unfold f_X7_playOut
  rw [zlet_eq]
  generalize hM1 : am_upd M 63 2 (-1) = M1 at hE1
  have hR1 := Rg_6364 hE1 hR
  have e632 : M1 63 2 = -1 := by rw [← hM1]; exact am_upd_self _ _ _ _
  rcases Nat.eq_zero_or_pos r with h0 | hpos
  · subst h0
    rw [if_neg (by omega), x_whole hR1]
    obtain ⟨⟨v, N⟩, e, hv, hE⟩ := x_countRung hI hR1 hwn (show 0 < 1024 by omega)
    replace hv : v = _ := hv
    rw [show ((0 : Nat) : Int) = 0 from rfl] at e
    rw [e, bind_s, zlet_eq]
    refine ⟨_, rfl, ⟨?_, fun h => by omega⟩, Eo_upd _ _ (by simp) (Eo_trans hE1 (Eo_sub hE (by simp)))⟩
    rw [am_upd_self]
    exact hv
  · obtain ⟨q, rfl⟩ : ∃ q, r = q + 1 := ⟨r - 1, by omega⟩
    have e4 : M1 23 4 = c 2 := hR1.1.2.2.2.2.1
    have hsub : o_sub ((q + 1 : Nat) : Int) 1 = (q : Int) := by rw [o_sub_eq (by omega) (by omega)]; omega
    rw [if_pos (by omega), e4, o_add_eq (by omega) (by omega)]
    have hw : Wp (f_X7_playOut_35 zB ((q + 1 : Nat) : Int) (c 2 + 1) 0 M1) (fun N => GT c (q + 1) N ∧ Eo [63, 64] M N) := by
      refine up_loopP0 (fun n i (s : Int × AM) => f_X7_playOut_35 n ((q + 1 : Nat) : Int) s.1 (i : Int) s.2)
        (fun i s => Eo [63, 64] M s.2 ∧ s.2 63 2 = (rg i (stepP (alP c true (wholeN c) 0) (valP c q true (wholeN c) 0) true) (0, -1)).2 ∧
          ((rg i (stepP (alP c true (wholeN c) 0) (valP c q true (wholeN c) 0) true) (0, -1)).2 = -1 ∧ s.1 = c 2 + 1 ∨ 0 ≤ (rg i (stepP (alP c true (wholeN c) 0) (valP c q true (wholeN c) 0) true) (0, -1)).2 ∧ s.1 = (rg i (stepP (alP c true (wholeN c) 0) (valP c q true (wholeN c) 0) true) (0, -1)).1)) _ (c 1).toNat (c 2 + 1, M1)
        ⟨hE1, e632, Or.inl ⟨rfl, rfl⟩⟩ ?_ ?_ (by omega)
      · rintro n i ⟨bst, N⟩ hi ⟨hE, hf, hs⟩
        replace hE : Eo [63, 64] M N := hE
        replace hf : N 63 2 = _ := hf
        have hRN := Rg_6364 hE hR
        have e3 : N 23 3 = c 1 := hRN.1.2.2.2.1
        have halw : alP c true (wholeN c) 0 i = decide (c (37 + i) = 1) := by
          unfold alP alw
          have : ¬ i = (c 1).toNat := by omega
          simp [this, whole_bit hi]
        have hvi : valP c q true (wholeN c) 0 i = (playP c q false (dif (wholeN c) (2 ^ i)) 0).1 := by unfold valP; rw [if_neg (by omega)]; rfl
        have hnn := playP_nn (c := c) q false (dif (wholeN c) (2 ^ i)) 0
        rw [← hvi] at hnn
        left
        show ∃ s2 : Int × AM, _ ∧ f_X7_playOut_35 (n + 1) ((q + 1 : Nat) : Int) bst (i : Int) N = _
        simp only [f_X7_playOut_35]
        rw [if_neg (by omega), x_isWhole (Ib_of hI) hRN (by omega), bind_s]
        rw [rg_succ]
        generalize rg i (stepP (alP c true (wholeN c) 0) (valP c q true (wholeN c) 0) true) (0, -1) = st at hf hs ⊢
        replace hs : st.2 = -1 ∧ bst = c 2 + 1 ∨ 0 ≤ st.2 ∧ bst = st.1 := hs
        by_cases g : c (37 + i) = 1
        · have hal : alP c true (wholeN c) 0 i = true := by rw [halw]; simp [g]
          simp only [if_pos g, i10, if_false]
          have hor : o_and (N 23 7) (o_xor (o_shl 1 (i : Int)) (-1)) = ((dif (wholeN c) (2 ^ i) : Nat) : Int) := by rw [x_whole hRN, o_shl_one' (by omega), o_dif hwn (lt_pow1024 (by omega))]
          rw [hsub, hor]
          obtain ⟨⟨z, N2⟩, e, ⟨hz, hz2⟩, hE2⟩ := x_wireman hI 5 q (by omega) (by omega) (dif (wholeN c) (2 ^ i)) 0 0 bst N (dif_lt (n := 10) hwn) (by omega) hRN
          replace hz : Sx z _ 0 bst := hz
          replace hz2 : 0 ≤ z ∨ z = _ := hz2
          replace hE2 : Eo [64] N N2 := hE2
          rw [← hvi] at hz hz2
          obtain ⟨z1, z2, z3⟩ := hz
          have ecall : f_X7_wiremanPlays (q : Int) ((dif (wholeN c) (2 ^ i) : Nat) : Int) 0 0 bst N = some (z, N2) := e
          have hEE : Eo [63, 64] M N2 := Eo_trans hE (Eo_sub hE2 (by simp))
          have h632 : N2 63 2 = st.2 := by rw [hE2 63 (by simp)]; exact hf
          rw [ecall, bind_s, o_succ (by omega)]
          dsimp only
          have hst : stepP (alP c true (wholeN c) 0) (valP c q true (wholeN c) 0) true st i = if 0 ≤ st.2 ∧ st.1 ≤ valP c q true (wholeN c) 0 i then st else (valP c q true (wholeN c) 0 i, (i : Int)) := by
            unfold stepP
            rw [hal, if_neg (by decide)]
            rfl
          rw [hst]
          generalize valP c q true (wholeN c) 0 i = v at hnn z1 z2 z3 hz2 ⊢
          by_cases g2 : bst ≤ v
          · have hzb := z2 g2
            have hk : 0 ≤ st.2 ∧ st.1 ≤ v := by
              rcases hs with ⟨h, h'⟩ | ⟨h, h'⟩
              · omega
              · exact ⟨h, by omega⟩
            rw [if_pos hzb, if_pos hk]
            exact ⟨(bst, N2), ⟨hEE, h632, hs⟩, rfl⟩
          · have hzv : z = v := by
              by_cases h : 0 < v
              · exact z3 h (by omega)
              · have := z1 (by omega)
                omega
            have hk : ¬ (0 ≤ st.2 ∧ st.1 ≤ v) := by
              rintro ⟨h, h'⟩
              rcases hs with ⟨h3, h4⟩ | ⟨h3, h4⟩ <;> omega
            rw [if_neg hk, if_neg (by omega), zlet_eq]
            exact ⟨(z, am_upd N2 63 2 (i : Int)), ⟨Eo_upd _ _ (by simp) hEE, am_upd_self N2 63 2 (i : Int), Or.inr ⟨by show 0 ≤ (i : Int); omega, hzv⟩⟩, rfl⟩
        · have hal : alP c true (wholeN c) 0 i = false := by rw [halw]; simp [g]
          have hst : stepP (alP c true (wholeN c) 0) (valP c q true (wholeN c) 0) true st i = st := by unfold stepP; rw [if_pos hal]
          simp only [if_neg g, if_true]
          rw [hst, o_succ (by omega)]
          exact ⟨(bst, N), ⟨hE, hf, hs⟩, rfl⟩
      · rintro n ⟨bst, N⟩ ⟨hE, hf, hs⟩
        replace hE : Eo [63, 64] M N := hE
        replace hf : N 63 2 = _ := hf
        have hRN := Rg_6364 hE hR
        have e3 : N 23 3 = c 1 := hRN.1.2.2.2.1
        have hvi : valP c q true (wholeN c) 0 (c 1).toNat = (playP c q false (wholeN c) 0).1 := by unfold valP; rw [if_pos rfl]; rfl
        have hnn := playP_nn (c := c) q false (wholeN c) 0
        rw [← hvi] at hnn
        have hlt : (rg (c 1).toNat (stepP (alP c true (wholeN c) 0) (valP c q true (wholeN c) 0) true) (0, -1)).2 < (((c 1).toNat : Nat) : Int) := by
          rcases stepP_inv (alP c true (wholeN c) 0) (valP c q true (wholeN c) 0) true (c 1).toNat with ⟨_, h⟩ | ⟨u, h1, _, h, _⟩
          · rw [h]; show (-1 : Int) < _; omega
          · rw [h]; show (u : Int) < _; omega
        show Wp (f_X7_playOut_35 (n + 1) ((q + 1 : Nat) : Int) bst (((c 1).toNat : Nat) : Int) N) _
        simp only [f_X7_playOut_35]
        rw [if_pos (by omega), hsub, x_whole hRN]
        unfold GT
        rw [playP_succ, rg_succ]
        generalize rg (c 1).toNat (stepP (alP c true (wholeN c) 0) (valP c q true (wholeN c) 0) true) (0, -1) = st at hf hs hlt ⊢
        replace hs : st.2 = -1 ∧ bst = c 2 + 1 ∨ 0 ≤ st.2 ∧ bst = st.1 := hs
        obtain ⟨⟨z, N2⟩, e, ⟨hz, hz2⟩, hE2⟩ := x_wireman hI 5 q (by omega) (by omega) (wholeN c) 0 0 bst N hwn (by omega) hRN
        replace hz : Sx z _ 0 bst := hz
        replace hz2 : 0 ≤ z ∨ z = _ := hz2
        replace hE2 : Eo [64] N N2 := hE2
        rw [← hvi] at hz hz2
        obtain ⟨z1, z2, z3⟩ := hz
        have ecall : f_X7_wiremanPlays (q : Int) ((wholeN c : Nat) : Int) 0 0 bst N = some (z, N2) := e
        have hEE : Eo [63, 64] M N2 := Eo_trans hE (Eo_sub hE2 (by simp))
        have h632 : N2 63 2 = st.2 := by rw [hE2 63 (by simp)]; exact hf
        rw [ecall, bind_s]
        dsimp only
        have hst : stepP (alP c true (wholeN c) 0) (valP c q true (wholeN c) 0) true st (c 1).toNat = if 0 ≤ st.2 ∧ st.1 ≤ valP c q true (wholeN c) 0 (c 1).toNat then st else (valP c q true (wholeN c) 0 (c 1).toNat, (((c 1).toNat : Nat) : Int)) := by
          unfold stepP
          rw [alP_top, if_neg (by decide)]
          rfl
        rw [hst]
        generalize valP c q true (wholeN c) 0 (c 1).toNat = v at hnn z1 z2 z3 hz2 ⊢
        by_cases g2 : bst ≤ v
        · have hzb := z2 g2
          have hk : 0 ≤ st.2 ∧ st.1 ≤ v := by
            rcases hs with ⟨h, h'⟩ | ⟨h, h'⟩
            · omega
            · exact ⟨h, by omega⟩
          have hb : bst = st.1 := by rcases hs with ⟨h, h'⟩ | ⟨h, h'⟩ <;> omega
          rw [if_pos hzb, if_pos hk, zlet_eq]
          refine wp_some ⟨⟨?_, fun _ => ?_⟩, Eo_upd _ _ (by simp) hEE⟩
          · rw [am_upd_self]; exact hb
          · rw [am_upd_ne (by omega), h632, if_neg (by omega)]
        · have hzv : z = v := by
            by_cases h : 0 < v
            · exact z3 h (by omega)
            · have := z1 (by omega)
              omega
          have hk : ¬ (0 ≤ st.2 ∧ st.1 ≤ v) := by
            rintro ⟨h, h'⟩
            rcases hs with ⟨h3, h4⟩ | ⟨h3, h4⟩ <;> omega
          rw [if_neg (by omega), if_neg hk, zlet_eq, zlet_eq]
          refine wp_some ⟨⟨?_, fun _ => ?_⟩, Eo_upd _ _ (by simp) (Eo_upd _ _ (by simp) hEE)⟩
          · rw [am_upd_self]; exact hzv
          · rw [am_upd_ne (by omega), am_upd_self, if_pos rfl]
    exact hw
theorem Qx_6364 {M N : AM} (h : Eo [63, 64] M N) : Qx M N := Qx_Eo h (by intro a ha; simp at ha; unfold xcell; omega)
theorem Rh_6364 {c : Nat → Int} {M N : AM} (h : Eo [63, 64] M N) (hR : Rh c 23 M) : Rh c 23 N := Rh_cong (fun i hi => h _ (by simp; omega)) hR
theorem GE_Qm {M N : AM} (h : GE M N) : Qm M N := by
  refine ⟨fun a ha => h.2.1 a ?_, h.2.2 2 (by decide), h.2.2 3 (by decide), h.2.2 8 (by decide), h.2.2 10 (by decide), h.2.2 11 (by decide), h.2.2 24 (by decide), h.2.2 34 (by decide)⟩
  intro hm
  simp at hm
  unfold mcell at ha
  omega
theorem a_game (a1 : Int) : Alike (f_X10_game a1) (f_X11_game a1) := by
  refine alike_q (fun c => if 0 ≤ a1 ∧ a1 ≤ 3 then (playP c a1.toNat true (wholeN c) 0).1 else -1) (fun c => if 0 ≤ a1 ∧ a1 ≤ 3 then 0 else 5) ?_ ?_
  · intro c M hI h9 hR
    unfold f_X10_game f_X10_game_9
    by_cases g : 0 ≤ a1 ∧ a1 ≤ 3
    · obtain ⟨r, rfl⟩ : ∃ w : Nat, a1 = (w : Int) := ⟨a1.toNat, by omega⟩
      obtain ⟨N, e, hG, hE⟩ := x_playOut hI (Rh_iff.mp hR).1 (r := r) (by omega)
      rw [if_neg (by omega), if_pos g.2, if_pos g, if_pos g, tnc, e, bind_s, x_answer, bind_s, hG.1]
      exact x_end (Qx_6364 hE) (Rh_6364 hE hR)
    · simp only [if_neg g, x_fail, bind_s]
      by_cases g2 : a1 < 0
      · rw [if_pos g2]; exact x_end (Qx_refl M) hR
      · rw [if_neg g2, if_neg (by omega)]; exact x_end (Qx_refl M) hR
  · intro P hI h9
    obtain ⟨M2, hM2, e5, q2, s2, hc, hf⟩ := MS_ok P
    rw [← e5] at hI
    have h1 := hI.2.1
    have hwn : wholeN (M2 5) < 1024 := lt1024 (n := (M2 5 1).toNat) (by omega) (setB_lt _ _)
    unfold f_X11_game
    rw [zlet_eq, zlet_eq, hM2, ← e5]
    by_cases g : 0 ≤ a1 ∧ a1 ≤ 3
    · obtain ⟨r, rfl⟩ : ∃ w : Nat, a1 = (w : Int) := ⟨a1.toNat, by omega⟩
      rw [isin_t g, bind_s]
      simp only [if_pos g, i10, if_false, tnc]
      obtain ⟨⟨v, N⟩, e, hv, hG, _⟩ := m_plays hI r 6 0 (by omega) (by omega) (wholeN (M2 5)) 0 M2 hwn (by omega) (rowP_start hI)
      replace hv : v = _ := hv
      replace hG : GE M2 N := hG
      rw [Nat.zero_add] at e
      have ecall : f_X11_plays 0 (r : Int) M2 = some (v, N) := e
      rw [ecall, bind_s, hv]
      exact m_fin (Qm_trans q2 (GE_Qm hG)) hG.1 (by show N 0 0 = 0; rw [hG.2.2 0 (by decide)]; exact s2)
    · rw [isin_f g, bind_s]
      simp only [if_neg g, if_true, m_refuse, bind_s]
      exact m_end q2 rfl
theorem a_moveOf (a1 : Int) : Alike (f_X10_moveOf a1) (f_X11_moveOf a1) := by
  refine alike_q (fun c => if 1 ≤ a1 ∧ a1 ≤ 3 then (if (playP c a1.toNat true (wholeN c) 0).2 = c 1 then -1 else (playP c a1.toNat true (wholeN c) 0).2) else -1) (fun c => if 1 ≤ a1 ∧ a1 ≤ 3 then (if (playP c a1.toNat true (wholeN c) 0).2 = c 1 then 8 else 0) else 5) ?_ ?_
  · intro c M hI h9 hR
    have h1 := hI.2.1
    unfold f_X10_moveOf f_X10_moveOf_10
    by_cases g : 1 ≤ a1 ∧ a1 ≤ 3
    · obtain ⟨r, rfl⟩ : ∃ w : Nat, a1 = ((w + 1 : Nat) : Int) := ⟨a1.toNat - 1, by omega⟩
      obtain ⟨N, e, hG, hE⟩ := x_playOut hI (Rh_iff.mp hR).1 (r := r + 1) (by omega)
      have h632 := hG.2 (by omega)
      have hp2 := playP_2 c r true (wholeN c) 0
      have ec : (((c 1).toNat : Nat) : Int) = c 1 := by omega
      rw [ec] at h632
      rw [if_neg (by omega), if_pos g.2, if_pos g, if_pos g, tnc, e, bind_s]
      by_cases g3 : (playP c (r + 1) true (wholeN c) 0).2 = c 1
      · rw [if_pos g3] at h632
        rw [if_neg (fun h => h h632), if_pos g3, if_pos g3, x_fail, bind_s]
        exact x_end (Qx_6364 hE) (Rh_6364 hE hR)
      · rw [if_neg g3] at h632
        rw [if_pos (by omega), if_neg g3, if_neg g3, x_answer, bind_s, h632]
        exact x_end (Qx_6364 hE) (Rh_6364 hE hR)
    · simp only [if_neg g, x_fail, bind_s]
      by_cases g2 : a1 < 1
      · rw [if_pos g2]; exact x_end (Qx_refl M) hR
      · rw [if_neg g2, if_neg (by omega)]; exact x_end (Qx_refl M) hR
  · intro P hI h9
    obtain ⟨M2, hM2, e5, q2, s2, hc, hf⟩ := MS_ok P
    rw [← e5] at hI
    have h1 := hI.2.1
    have hwn : wholeN (M2 5) < 1024 := lt1024 (n := (M2 5 1).toNat) (by omega) (setB_lt _ _)
    unfold f_X11_moveOf
    rw [zlet_eq, zlet_eq, hM2, ← e5]
    by_cases g : 1 ≤ a1 ∧ a1 ≤ 3
    · obtain ⟨r, rfl⟩ : ∃ w : Nat, a1 = ((w + 1 : Nat) : Int) := ⟨a1.toNat - 1, by omega⟩
      rw [isin_t g, bind_s]
      simp only [if_pos g, i10, not_false_eq_true, if_true, tnc]
      obtain ⟨⟨v, N⟩, e, hv, hG, hfm⟩ := m_plays hI (r + 1) 6 0 (by omega) (by omega) (wholeN (M2 5)) 0 M2 hwn (by omega) (rowP_start hI)
      replace hG : GE M2 N := hG
      replace hfm : N 0 32 = (playP (M2 5) (r + 1) true (wholeN (M2 5)) 0).2 := hfm rfl (by omega)
      rw [Nat.zero_add] at e
      have ecall : f_X11_plays 0 ((r + 1 : Nat) : Int) M2 = some (v, N) := e
      have eN1 : N 5 (Int.toNat 1) = M2 5 1 := by rw [tn1, hG.1]
      rw [ecall, bind_s]
      dsimp only
      by_cases g3 : (playP (M2 5) (r + 1) true (wholeN (M2 5)) 0).2 = M2 5 1
      · rw [if_neg (fun h => h (by rw [hfm, eN1]; exact g3)), if_pos g3, if_pos g3, m_refuse, bind_s]
        exact m_end (Qm_trans q2 (GE_Qm hG)) hG.1
      · rw [if_pos (by rw [hfm, eN1]; exact g3), if_neg g3, if_neg g3, hfm]
        exact m_fin (Qm_trans q2 (GE_Qm hG)) hG.1 (by rw [hG.2.2 0 (by decide)]; exact s2)
    · rw [isin_f g, bind_s]
      simp only [if_neg g, not_true_eq_false, if_false, m_refuse, bind_s]
      exact m_end q2 rfl
