/-! LIVE: the call -/
theorem x_live52 {A : AM} : f_X10_live_52 zB 0 A = some (A 69 0, am_upd (am_upd (am_row A 19 (fun j => if j < 5 then A 70 j else A 19 j)) 15 19 1) 15 0 0) := by
  refine up_loop0 (fun n i s => f_X10_live_52 n (i : Int) s) (fun i => am_row A 19 (fun j => if j < i then A 70 j else A 19 j)) 5 _ A ?_ ?_ ?_ (by omega)
  · exact am_row_id _ _ _ (by funext j; rw [if_neg (by omega)])
  · intro n i hi
    simp only [f_X10_live_52]
    rw [if_neg (by omega), if_pos (by omega), zlet_eq, o_succ (by omega), tnc, am_row_ne (by decide), am_row_upd]
    congr 1
    congr 1
    funext j
    by_cases h1 : j = i
    · subst h1
      rw [if_pos rfl, if_pos (by omega)]
    · rw [if_neg h1]
      by_cases h2 : j < i
      · rw [if_pos h2, if_pos (by omega)]
      · rw [if_neg h2, if_neg (by omega)]
  · intro n
    simp only [f_X10_live_52]
    rw [if_pos (by omega), zlet_eq, am_upd_cell (by decide), am_row_ne (by decide), x_answer, bind_s]
theorem a_live (a1 : Int) : Alike (f_X10_live a1) (f_X11_live a1) := by
  intro M hR
  have hys := RR_years hR
  have st : ∀ s : Int, am_upd (am_upd (am_upd M 15 0 s) 0 1 0) 0 0 0 5 = M 5 := fun s => by rw [am_upd_cell (by decide), am_upd_cell (by decide), am_upd_cell (by decide)]
  by_cases g1 : 0 ≤ a1 ∧ a1 ≤ 9999
  · rcases hys with ⟨h83, h45⟩ | ⟨h83, h45, n, r, b1, b2, b3, b4, b5⟩
    · refine still hR (-1) 8 ?_ ?_
      · unfold f_X10_live
        rw [if_neg (by omega), if_pos g1.2, if_neg (fun h => h h45), x_fail, bind_s]
      · unfold f_X11_live
        rw [zlet_eq, zlet_eq, isin_t g1, bind_s]
        simp only [i10, not_false_eq_true, if_true, st]
        rw [if_neg (fun h => h h83), m_refuse, bind_s, am_upd_tw]
    · obtain ⟨hI, h9, hRh⟩ := RR_house hR
      obtain ⟨A, B0, eA, _, gA⟩ := run_years (q := 23) (A := M) (B := M) (Or.inl rfl) g1 hI h9 hRh b5 b1 b2 b3 b4
      have hXA : LX 23 M A := gA.2.2.2.2.2.2.1
      have xA : ∀ x, ¬ xcell x → A x = M x := fun x hx => by unfold xcell at hx; exact hXA x (by omega) (by omega) (by omega) (by omega) (by omega) (by omega) (by omega) (by omega) (by omega) (by omega)
      have x15 : A 15 = M 15 := hXA 15 (by omega) (by omega) (by omega) (by omega) (by omega) (by omega) (by omega) (by omega) (by omega) (by omega)
      generalize hN1 : am_upd (am_upd (am_row A 19 (fun j => if j < 5 then A 70 j else A 19 j)) 15 19 1) 15 0 0 = N1
      have n1 : ∀ x, x ≠ 15 → x ≠ 19 → N1 x = A x := fun x h1 h2 => by rw [← hN1, am_upd_cell h1, am_upd_cell h1, am_row_ne h2]
      have n15 : ∀ j, j ≠ 0 → j ≠ 19 → N1 15 j = M 15 j := fun j h1 h2 => by rw [← hN1, am_upd_ne (by omega), am_upd_ne (by omega), am_row_ne (by decide), x15]
      have n150 : N1 15 0 = 0 := by rw [← hN1, am_upd_self]
      have n1519 : N1 15 19 = 1 := by rw [← hN1, am_upd_ne (by omega), am_upd_self]
      have n19 : ∀ i, i < 5 → N1 19 i = A 70 i := fun i hi => by rw [← hN1, am_upd_cell (by decide), am_upd_cell (by decide), am_row_self]; exact if_pos hi
      have hx : f_X10_live a1 M = some (A 69 0, N1) := by
        unfold f_X10_live
        rw [if_neg (by omega), if_pos g1.2, if_pos (by omega), eA, bind_s, x_live52, hN1]
      obtain ⟨M2, hM2, e5, q2, s2, hc, hf⟩ := MS_ok N1
      have k5 : M2 5 = M 5 := by rw [e5, n1 5 (by decide) (by decide)]; exact xA 5 (by unfold xcell; omega)
      obtain ⟨A', B, eA', eB, gB⟩ := run_years (q := 23) (A := M) (B := M2) (Or.inl rfl) g1 (by rw [k5]; exact hI) (by rw [k5]; exact h9) (by rw [k5]; exact hRh) (by rw [k5]; exact b5) (by rw [k5]; exact b1) b2 b3 b4
      have eAA : A = A' := Option.some.inj (eA.symm.trans eA')
      subst eAA
      obtain ⟨⟨l1, l2, l3⟩, lb, lc, ld, le, lf, lg, ⟨lm1, lm2⟩⟩ := gB
      rw [k5] at l3
      generalize hN2 : am_upd (am_upd (am_upd (am_upd (am_upd (am_upd B 14 0 (B 0 38)) 14 1 (B 0 39)) 14 2 (B 0 40)) 14 3 (B 0 41)) 14 4 (B 0 42)) 0 34 1 = N2
      have t0 : ∀ x, x ≠ 0 → x ≠ 14 → N2 x = B x := fun x h1 h2 => by rw [← hN2, am_upd_cell h1, am_upd_cell h2, am_upd_cell h2, am_upd_cell h2, am_upd_cell h2, am_upd_cell h2]
      have t00 : ∀ j, j ≠ 34 → N2 0 j = B 0 j := fun j h1 => by rw [← hN2, am_upd_ne (by omega), am_upd_cell (by decide), am_upd_cell (by decide), am_upd_cell (by decide), am_upd_cell (by decide), am_upd_cell (by decide)]
      have t034 : N2 0 34 = 1 := by rw [← hN2, am_upd_self]
      have t140 : N2 14 0 = B 0 38 := by rw [← hN2]; simp [am_upd_eq]
      have t141 : N2 14 1 = B 0 39 := by rw [← hN2]; simp [am_upd_eq]
      have t142 : N2 14 2 = B 0 40 := by rw [← hN2]; simp [am_upd_eq]
      have t143 : N2 14 3 = B 0 41 := by rw [← hN2]; simp [am_upd_eq]
      have t144 : N2 14 4 = B 0 42 := by rw [← hN2]; simp [am_upd_eq]
      have m0 : ∀ j, j ≠ 0 → j ≠ 1 → j < 35 ∨ 42 < j → B 0 j = N1 0 j := fun j h0 h1 h => by rw [lm2 j h, hf j h0 h1]
      have mx : ∀ x, ¬ mcell x → B x = N1 x := fun x hx => by unfold mcell at hx; rw [lm1 x (by omega) (by omega) (by omega) (by omega), hc x (by omega)]
      have hm : f_X11_live a1 N1 = some (B 0 37, N2) := by
        unfold f_X11_live
        rw [zlet_eq, zlet_eq, hM2, isin_t g1, bind_s]
        simp only [i10, not_false_eq_true, if_true]
        rw [k5, if_pos (show ¬ M 5 (Int.toNat 83) = 0 by rw [show Int.toNat 83 = 83 from rfl, h83]; decide), eB, bind_s]
        simp only [zlet_eq]
        have y1 : am_upd B 14 (Int.toNat 0) (B 0 38) 0 39 = B 0 39 := by rw [am_upd_cell (by decide)]
        have y2 : ∀ v w : Int, am_upd (am_upd B 14 (Int.toNat 0) v) 14 (Int.toNat 1) w 0 40 = B 0 40 := fun v w => by rw [am_upd_cell (by decide), am_upd_cell (by decide)]
        have y3 : ∀ v w u : Int, am_upd (am_upd (am_upd B 14 (Int.toNat 0) v) 14 (Int.toNat 1) w) 14 (Int.toNat 2) u 0 41 = B 0 41 := fun v w u => by rw [am_upd_cell (by decide), am_upd_cell (by decide), am_upd_cell (by decide)]
        have y4 : ∀ v w u z : Int, am_upd (am_upd (am_upd (am_upd B 14 (Int.toNat 0) v) 14 (Int.toNat 1) w) 14 (Int.toNat 2) u) 14 (Int.toNat 3) z 0 42 = B 0 42 := fun v w u z => by rw [am_upd_cell (by decide), am_upd_cell (by decide), am_upd_cell (by decide), am_upd_cell (by decide)]
        rw [y1, y2, y3, y4]
        rw [show Int.toNat 0 = 0 from rfl, show Int.toNat 1 = 1 from rfl, show Int.toNat 2 = 2 from rfl, show Int.toNat 3 = 3 from rfl, show Int.toNat 4 = 4 from rfl, hN2, t00 37 (by decide)]
      refine ⟨A 69 0, N1, N2, hx, by rw [hm, ld.1], ?_⟩
      have n25 : N2 5 = B 5 := t0 5 (by decide) (by decide)
      have n0 : N1 0 = M 0 := by rw [n1 0 (by decide) (by decide)]; exact xA 0 (by unfold xcell; omega)
      refine RR_mk3 (M := M) (N1 := N1) hR ⟨fun a ha h19 => ?_, n15⟩ ⟨fun a ha h14 => ?_, ?_, ?_, ?_, ?_, ?_, ?_⟩ (by rw [n25]; exact l1) (by rw [n25]; exact l2) ?_ ?_ (fun k hk => ?_) ?_ ⟨?_, ?_, fun i hi => ?_⟩
      · rw [n1 a (by rintro rfl; exact ha (Or.inl rfl)) h19]; exact xA a ha
      · rw [t0 a (by rintro rfl; exact ha (Or.inl rfl)) h14]; exact mx a ha
      · rw [t00 2 (by decide)]; exact m0 2 (by decide) (by decide) (by decide)
      · rw [t00 3 (by decide)]; exact m0 3 (by decide) (by decide) (by decide)
      · rw [t00 8 (by decide)]; exact m0 8 (by decide) (by decide) (by decide)
      · rw [t00 10 (by decide)]; exact m0 10 (by decide) (by decide) (by decide)
      · rw [t00 11 (by decide)]; exact m0 11 (by decide) (by decide) (by decide)
      · rw [t00 24 (by decide)]; exact m0 24 (by decide) (by decide) (by decide)
      · rw [n25]; exact Rh_cong (fun i hi => n1 _ (by omega) (by omega)) lb
      · rw [n25]; exact ⟨l3 0 (by decide) (by decide), l3 1 (by decide) (by decide), l3 2 (by decide) (by decide)⟩
      · rw [n25]; exact l3 k (by omega) (by omega)
      · rw [n150, t00 0 (by decide), lm2 0 (by decide)]; exact s2
      · rw [t034, t0 15 (by decide) (by decide), mx 15 (by unfold mcell; omega)]; exact n1519
      · exact Or.inr t034
      · rw [t0 19 (by decide) (by decide), mx 19 (by unfold mcell; omega), n19 i hi]
        rcases (by omega : i = 0 ∨ i = 1 ∨ i = 2 ∨ i = 3 ∨ i = 4) with rfl | rfl | rfl | rfl | rfl
        · rw [t140]; exact (le 0 (by decide)).1
        · rw [t141]; exact (le 1 (by decide)).1
        · rw [t142]; exact (le 2 (by decide)).1
        · rw [t143]; exact (le 3 (by decide)).1
        · rw [t144]; exact lf
  · refine still hR (-1) 5 ?_ ?_
    · unfold f_X10_live f_X10_live_11
      by_cases g3 : a1 < 0
      · rw [if_pos g3, x_fail, bind_s]
      · rw [if_neg g3, if_neg (by omega), x_fail, bind_s]
    · unfold f_X11_live
      rw [zlet_eq, zlet_eq, isin_f g1, bind_s]
      simp only [i00, not_true_eq_false, if_false, m_refuse, bind_s, am_upd_tw]
