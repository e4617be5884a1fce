/-! COPYLOVE, POUR -/
def pzA (M : AM) (t i : Nat) : Nat → Int := fun j => if j < i then cutW (M 1 t) (M 5 (59 + j)) else M (75 + 2 * t) j
def pzM (K : AM) (t i : Nat) : Nat → Int := fun j => if 60 * t ≤ j ∧ j < 60 * t + i then cutW (K 1 t) (K 5 (59 + (j - 60 * t))) else K 3 j
theorem x_love59 {M : AM} (hR : RR M) {t : Nat} (ht : t < 4) (hs : M 5 2 ≤ M 2 t) (h0 : 0 ≤ M 5 2) : f_X10_copyLove_59 zB (t : Int) 0 M = some (M 5 2, am_upd (am_row M (75 + 2 * t) (pzA M t (M 5 2).toNat)) 15 0 0) := by
  have hT := hR.2.2.2.1
  obtain ⟨hI, h9, hRh⟩ := RR_house hR
  have hg := (Rh_iff.mp hRh).1
  have h2 := hI.2.2.1
  have e4 : M 23 4 = M 5 2 := hg.1.2.2.2.2.1
  refine up_loop0 (fun n i (s : AM) => f_X10_copyLove_59 n (t : Int) (i : Int) s) (fun i => am_row M (75 + 2 * t) (pzA M t i)) (M 5 2).toNat _ M ?_ ?_ ?_ (by omega)
  · exact am_row_id _ _ _ (by funext j; unfold pzA; rw [if_neg (by omega)])
  · intro n i hi
    have e23 : am_row M (75 + 2 * t) (pzA M t i) 23 = M 23 := am_row_ne (by omega)
    have e29 : am_row M (75 + 2 * t) (pzA M t i) 29 = M 29 := am_row_ne (by omega)
    have k3 : M 29 i = M 5 (59 + i) := (hg.2.2.1 i (by omega)).2.2.1
    obtain ⟨b1, b2, b3, b4, b5, b6, b7⟩ := Rt_made hT ht (by omega)
    simp only [f_X10_copyLove_59, tnc, e23, e29, e4, k3, q74]
    rw [if_neg (by omega), if_pos (by omega), if_pos (by omega)]
    have e74 : am_row M (75 + 2 * t) (pzA M t i) (74 + 2 * t) = M (74 + 2 * t) := am_row_ne (by omega)
    unfold f_X6_put
    rw [x_hasRow (by rw [e74]; omega), bind_s, e74, b3]
    simp only [if_pos (show 0 ≤ (i : Int) ∧ (0 : Int) ≤ 1 ∧ (i : Int) + 1 ≤ M 2 t by omega), i10, if_false]
    rw [x_cutTo, bind_s, e74, b2]
    dsimp only
    rw [if_pos (by omega), zlet_eq, tnc, q75, bind_s, o_succ (by omega), am_row_upd]
    congr 1
    congr 1
    funext j
    unfold pzA
    by_cases h1 : j = i
    · subst h1; rw [if_pos rfl, if_pos (by omega)]
    · rw [if_neg h1]
      by_cases h2 : j < i
      · rw [if_pos h2, if_pos (by omega)]
      · rw [if_neg h2, if_neg (by omega)]
  · intro n
    have e23 : am_row M (75 + 2 * t) (pzA M t (M 5 2).toNat) 23 = M 23 := am_row_ne (by omega)
    simp only [f_X10_copyLove_59, e23, e4]
    rw [if_pos (by omega), x_answer, bind_s]
theorem m_love62 {K : AM} {t : Nat} (ht : t < 4) (h0 : 0 ≤ K 5 2) (h6 : K 5 2 ≤ 6) (hs : K 5 2 ≤ K 2 t) (h60 : K 2 t ≤ 60) (z0 : K 0 0 = 0) (z1 : K 0 1 = 0) : f_X11_copyLove_62 zB (t : Int) 0 K = some (K 5 2, am_row K 3 (pzM K t (K 5 2).toNat)) := by
  refine up_loop0 (fun n i (s : AM) => f_X11_copyLove_62 n (t : Int) (i : Int) s) (fun i => am_row K 3 (pzM K t i)) (K 5 2).toNat _ K ?_ ?_ ?_ (by omega)
  · exact am_row_id _ _ _ (by funext j; unfold pzM; rw [if_neg (by omega)])
  · intro n i hi
    have r0 : am_row K 3 (pzM K t i) 0 = K 0 := am_row_ne (by decide)
    have r1 : am_row K 3 (pzM K t i) 1 = K 1 := am_row_ne (by decide)
    have r2 : am_row K 3 (pzM K t i) 2 = K 2 := am_row_ne (by decide)
    have r5 : am_row K 3 (pzM K t i) 5 = K 5 := am_row_ne (by decide)
    have hp : pl (am_row K 3 (pzM K t i)) (t : Int) (i : Int) = 0 := by
      unfold pl
      rw [r2, tnc, if_pos (by omega), if_pos (by omega), if_pos (by omega)]
    have ew : f_X11_write (t : Int) (i : Int) (K 5 (59 + i)) (am_row K 3 (pzM K t i)) = some (1, am_row K 3 (pzM K t (i + 1))) := by
      unfold f_X11_write
      rw [zlet_eq, am_upd_nop (by rw [r0]; exact z1), m_placed, bind_s, hp]
      dsimp only
      rw [zlet_eq, am_upd_nop (by rw [r0]; exact z0), r0, z0, if_pos (by decide), if_pos (by omega), m_cutTo, bind_s, tnc, r1]
      dsimp only
      rw [o_mul_eq (by omega) (by omega), o_add_eq (by omega) (by omega), if_pos (by omega), zlet_eq, show ((60 : Int) * (t : Int) + (i : Int)).toNat = 60 * t + i by omega, am_row_upd]
      congr 2
      congr 1
      funext j
      unfold pzM
      by_cases h1 : j = 60 * t + i
      · subst h1
        rw [if_pos rfl, if_pos (by omega), show 60 * t + i - 60 * t = i by omega]
      · rw [if_neg h1]
        by_cases h2 : 60 * t ≤ j ∧ j < 60 * t + i
        · rw [if_pos h2, if_pos (by omega)]
        · rw [if_neg h2, if_neg (by omega)]
    simp only [f_X11_copyLove_62, r5, tn2]
    rw [if_neg (by omega), o_add_eq (by omega) (by omega), if_pos (by omega), show ((59 : Int) + (i : Int)).toNat = 59 + i by omega, ew, bind_s, o_succ (by omega)]
  · intro n
    have r5 : am_row K 3 (pzM K t (K 5 2).toNat) 5 = K 5 := am_row_ne (by decide)
    simp only [f_X11_copyLove_62, r5, tn2]
    rw [if_pos (by omega)]
def loS (M : AM) (a : Int) : Int := if 0 ≤ a ∧ a < 4 then (if 0 ≤ M 2 a.toNat then (if M 5 2 ≤ M 2 a.toNat then 0 else 4) else 3) else 1
theorem a_copyLove (a1 : Int) : Alike (f_X10_copyLove a1) (f_X11_copyLove a1) := by
  intro M hR
  have hT := hR.2.2.2.1
  obtain ⟨hI, h9, hRh⟩ := RR_house hR
  have hg := (Rh_iff.mp hRh).1
  have hc2 := hI.2.2.1
  have e4 : M 23 4 = M 5 2 := hg.1.2.2.2.2.1
  by_cases g : loS M a1 = 0
  · have hg3 : (0 ≤ a1 ∧ a1 < 4) ∧ 0 ≤ M 2 a1.toNat ∧ M 5 2 ≤ M 2 a1.toNat := by
      unfold loS at g
      by_cases g1 : 0 ≤ a1 ∧ a1 < 4
      · rw [if_pos g1] at g
        by_cases g2 : 0 ≤ M 2 a1.toNat
        · rw [if_pos g2] at g
          by_cases g3 : M 5 2 ≤ M 2 a1.toNat
          · exact ⟨g1, g2, g3⟩
          · rw [if_neg g3] at g; exact absurd g (by decide)
        · rw [if_neg g2] at g; exact absurd g (by decide)
      · rw [if_neg g1] at g; exact absurd g (by decide)
    obtain ⟨g1, g2, g3⟩ := hg3
    obtain ⟨t, rfl⟩ : ∃ t : Nat, a1 = (t : Int) := ⟨a1.toNat, by omega⟩
    rw [tnc] at g2 g3
    obtain ⟨b1, b2, b3, b4, b5, b6, b7⟩ := Rt_made hT (t := t) (by omega) g2
    have ex : f_X10_copyLove (t : Int) M = some (M 5 2, am_upd (am_row M (75 + 2 * t) (pzA M t (M 5 2).toNat)) 15 0 0) := by
      unfold f_X10_copyLove
      rw [x_isTray, bind_s]
      simp only [if_pos g1, i10, not_false_eq_true, if_true, tnc, q74, b1]
      rw [x_hasRow (by omega), bind_s, e4, b3]
      simp only [if_pos (show (0 : Int) ≤ 0 ∧ 0 ≤ M 5 2 ∧ 0 + M 5 2 ≤ M 2 t by omega), i10, not_false_eq_true, if_true]
      exact x_love59 hR (by omega) g3 hc2.1
    generalize hP : am_upd (am_row M (75 + 2 * t) (pzA M t (M 5 2).toNat)) 15 0 0 = P at ex
    have pc : ∀ x, x ≠ 15 → x < 74 ∨ 82 ≤ x → P x = M x := fun x a b => by rw [← hP, am_upd_cell a, am_row_ne (by omega)]
    obtain ⟨M2, hM2, e5, q2, s2, hc, hf⟩ := MS_ok P
    have z1 : M2 0 1 = 0 := by rw [← hM2, am_upd_ne (by omega), am_upd_self]
    have c5 : M2 5 = M 5 := by rw [e5, pc 5 (by decide) (by omega)]
    have c1 : M2 1 = M 1 := by rw [hc 1 (by decide), pc 1 (by decide) (by omega)]
    have c2 : M2 2 = M 2 := by rw [hc 2 (by decide), pc 2 (by decide) (by omega)]
    have c3 : M2 3 = M 3 := by rw [hc 3 (by decide), pc 3 (by decide) (by omega)]
    have em : f_X11_copyLove (t : Int) P = some (M 5 2, am_row M2 3 (pzM M2 t (M 5 2).toNat)) := by
      unfold f_X11_copyLove f_X11_isTray
      rw [zlet_eq, zlet_eq, hM2, isin_t (show 0 ≤ (t : Int) ∧ (t : Int) ≤ 3 by omega), bind_s]
      dsimp only
      rw [if_pos (Or.inr rfl), bind_s]
      simp only [i10, not_false_eq_true, if_true, tnc, tn2]
      rw [if_pos g1, c2, c5, if_pos g2, if_pos g3, ← c5]
      exact m_love62 (by omega) (by rw [c5]; omega) (by rw [c5]; omega) (by rw [c5, c2]; omega) (by rw [c2]; omega) s2 z1
    refine ⟨_, P, _, ex, em, RR_tray hR pc ?_ ?_ ?_ ?_ ?_⟩
    · intro i hi
      rw [← hP, am_upd_ne (fun h => hi h.2), am_row_ne (by omega)]
    · intro x hx
      rw [am_row_ne (by omega)]
      exact hc x (by omega)
    · have := q2.2
      unfold Qf at this ⊢
      rw [am_row_ne (by decide)]
      exact this
    · intro u hu
      have P74 : P (74 + 2 * u) = M (74 + 2 * u) := by rw [← hP, am_upd_cell (by omega), am_row_ne (by omega)]
      rw [am_row_self, am_row_ne (show 74 + 2 * u ≠ 3 by omega), am_row_ne (show 75 + 2 * u ≠ 3 by omega), am_row_ne (show 2 ≠ 3 by decide), am_row_ne (show 1 ≠ 3 by decide), hc _ (show 74 + 2 * u ≠ 0 by omega), hc _ (show 75 + 2 * u ≠ 0 by omega), P74, c1, c2]
      rcases hT u hu with c | ⟨d1, d2, d3, d4, d5, d6, d7, d8⟩
      · exact Or.inl c
      · refine Or.inr ⟨d1, d2, d3, d4, d5, d6, d7, fun k hk => ?_⟩
        unfold pzM
        rw [c1, c5, c3]
        by_cases e : u = t
        · subst e
          rw [← hP, am_upd_cell (by omega), am_row_self]
          unfold pzA
          by_cases e2 : k < (M 5 2).toNat
          · rw [if_pos e2, if_pos (by omega), show 60 * u + k - 60 * u = k by omega]
          · rw [if_neg e2, if_neg (by omega)]
            exact d8 k hk
        · rw [← hP, am_upd_cell (by omega), am_row_ne (by omega), if_neg (by omega)]
          exact d8 k hk
    · rw [am_row_ne (by decide), s2, ← hP, am_upd_self]
  · refine still hR (-1) (loS M a1) ?_ ?_
    · unfold f_X10_copyLove
      rw [x_isTray, bind_s]
      unfold loS at g ⊢
      by_cases g1 : 0 ≤ a1 ∧ a1 < 4
      · obtain ⟨t, rfl⟩ : ∃ t : Nat, a1 = (t : Int) := ⟨a1.toNat, by omega⟩
        simp only [if_pos g1, i10, not_false_eq_true, if_true, tnc, q74] at g ⊢
        by_cases g2 : 0 ≤ M 2 t
        · obtain ⟨b1, b2, b3, b4, b5, b6, b7⟩ := Rt_made hT (t := t) (by omega) g2
          rw [if_pos g2] at g ⊢
          have g3 : ¬ M 5 2 ≤ M 2 t := fun h => g (if_pos h)
          rw [b1, if_pos (by decide), x_hasRow (by omega), bind_s, e4, b3]
          simp only [if_neg (show ¬ ((0 : Int) ≤ 0 ∧ 0 ≤ M 5 2 ∧ 0 + M 5 2 ≤ M 2 t) by omega), if_neg g3, not_true_eq_false, if_false, x_fail, bind_s]
        · rw [Rt_not hT (by omega) g2, if_neg (fun h => h rfl), if_neg g2, x_fail, bind_s]
      · simp only [if_neg g1, not_true_eq_false, if_false, x_fail, bind_s]
    · unfold f_X11_copyLove f_X11_isTray
      rw [zlet_eq, zlet_eq]
      have c2 := st_row2 (M := M) (s := loS M a1) (u := 0) (x := 2) (by decide) (by decide)
      have c5 := st_row2 (M := M) (s := loS M a1) (u := 0) (x := 5) (by decide) (by decide)
      generalize hZ : am_upd (am_upd (am_upd M 15 0 (loS M a1)) 0 1 0) 0 0 0 = Z at c2 c5
      have hz : ∀ v, am_upd Z 0 0 v = am_upd (am_upd (am_upd M 15 0 (loS M a1)) 0 1 0) 0 0 v := fun v => by rw [← hZ, am_upd_tw]
      rw [← hz (loS M a1)]
      unfold loS at g ⊢
      by_cases g1 : 0 ≤ a1 ∧ a1 < 4
      · rw [isin_t (show 0 ≤ a1 ∧ a1 ≤ 3 by omega), bind_s]
        dsimp only
        rw [if_pos (Or.inr rfl), bind_s]
        simp only [if_pos g1, i10, not_false_eq_true, if_true, tn2, c2, c5] at g ⊢
        by_cases g2 : 0 ≤ M 2 a1.toNat
        · simp only [if_pos g2] at g ⊢
          have g3 : ¬ M 5 2 ≤ M 2 a1.toNat := fun h => g (if_pos h)
          simp only [if_neg g3, m_refuse, bind_s]
        · simp only [if_neg g2, m_refuse, bind_s]
      · rw [isin_f (show ¬ (0 ≤ a1 ∧ a1 ≤ 3) by omega), bind_s]
        dsimp only
        rw [if_pos (Or.inl rfl), bind_s]
        simp only [if_neg g1, i00, not_true_eq_false, if_false, m_refuse, bind_s]
