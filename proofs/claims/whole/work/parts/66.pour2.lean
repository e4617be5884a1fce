/-! POUR -/
/-- row 3 of the model after a pour -/
def poF (f : Nat → Int) (s d lo hi : Nat) : Nat → Int := fun j => if d + lo ≤ j ∧ j < d + hi then f (s + (j - d)) else f j
theorem m_pour0 {K : AM} {t u x y n : Nat} (ht : t < 4) (hu : u < 4) (hx : x + n ≤ 60) (hy : y + n ≤ 60) (hle : y ≤ x) : f_X11_pour_158 zB (t : Int) (x : Int) (u : Int) (y : Int) (n : Int) 0 0 K = some (1, am_row K 3 (poF (K 3) (60 * t + x) (60 * u + y) 0 n)) := by
  refine up_loop0 (fun m i (s : AM) => f_X11_pour_158 m (t : Int) (x : Int) (u : Int) (y : Int) (n : Int) 0 (i : Int) s) (fun i => am_row K 3 (poF (K 3) (60 * t + x) (60 * u + y) 0 i)) n _ K ?_ ?_ ?_ (by omega)
  · exact am_row_id _ _ _ (by funext j; unfold poF; rw [if_neg (by omega)])
  · intro m i hi
    simp only [f_X11_pour_158]
    rw [if_neg (by omega), if_pos trivial]
    unfold f_X11_pour_182
    rw [o_mul_eq (x := 60) (y := (t : Int)) (by omega) (by omega), o_mul_eq (x := 60) (y := (u : Int)) (by omega) (by omega), o_add_eq (x := 60 * (t : Int)) (by omega) (by omega), o_add_eq (x := 60 * (u : Int)) (by omega) (by omega), o_add_eq (x := 60 * (t : Int) + (x : Int)) (by omega) (by omega), o_add_eq (x := 60 * (u : Int) + (y : Int)) (by omega) (by omega), if_pos (by omega), if_pos (by omega), zlet_eq, o_succ (by omega), show (60 * (t : Int) + (x : Int) + (i : Int)).toNat = 60 * t + x + i by omega, show (60 * (u : Int) + (y : Int) + (i : Int)).toNat = 60 * u + y + i by omega, am_row_self, am_row_upd]
    congr 1
    congr 1
    funext j
    unfold poF
    by_cases h1 : j = 60 * u + y + i
    · subst h1
      rw [if_pos rfl, if_neg (by omega), if_pos (by omega), show 60 * u + y + i - (60 * u + y) = i by omega]
    · rw [if_neg h1]
      by_cases h2 : 60 * u + y + 0 ≤ j ∧ j < 60 * u + y + i
      · rw [if_pos h2, if_pos (by omega)]
      · rw [if_neg h2, if_neg (by omega)]
  · intro m
    simp only [f_X11_pour_158]
    rw [if_pos (by omega)]
theorem m_pour1 {K : AM} {t u x y n : Nat} (ht : t < 4) (hu : u < 4) (hx : x + n ≤ 60) (hy : y + n ≤ 60) (hle : x < y) : f_X11_pour_158 zB (t : Int) (x : Int) (u : Int) (y : Int) (n : Int) 1 0 K = some (1, am_row K 3 (poF (K 3) (60 * t + x) (60 * u + y) 0 n)) := by
  refine up_loop0 (fun m i (s : AM) => f_X11_pour_158 m (t : Int) (x : Int) (u : Int) (y : Int) (n : Int) 1 (i : Int) s) (fun i => am_row K 3 (poF (K 3) (60 * t + x) (60 * u + y) (n - i) n)) n _ K ?_ ?_ ?_ (by omega)
  · exact am_row_id _ _ _ (by funext j; unfold poF; rw [if_neg (by omega)])
  · intro m i hi
    simp only [f_X11_pour_158]
    rw [if_neg (by omega), if_neg (by decide)]
    unfold f_X11_pour_182
    rw [o_sub_eq (x := (n : Int)) (y := 1) (by omega) (by omega), o_sub_eq (by omega) (by omega), show (n : Int) - 1 - (i : Int) = ((n - 1 - i : Nat) : Int) by omega, o_mul_eq (x := 60) (y := (t : Int)) (by omega) (by omega), o_mul_eq (x := 60) (y := (u : Int)) (by omega) (by omega), o_add_eq (x := 60 * (t : Int)) (by omega) (by omega), o_add_eq (x := 60 * (u : Int)) (by omega) (by omega), o_add_eq (x := 60 * (t : Int) + (x : Int)) (by omega) (by omega), o_add_eq (x := 60 * (u : Int) + (y : Int)) (by omega) (by omega), if_pos (by omega), if_pos (by omega), zlet_eq, o_succ (by omega), show (60 * (t : Int) + (x : Int) + ((n - 1 - i : Nat) : Int)).toNat = 60 * t + x + (n - 1 - i) by omega, show (60 * (u : Int) + (y : Int) + ((n - 1 - i : Nat) : Int)).toNat = 60 * u + y + (n - 1 - i) by omega, am_row_self, am_row_upd]
    congr 1
    congr 1
    funext j
    unfold poF
    by_cases h1 : j = 60 * u + y + (n - 1 - i)
    · subst h1
      rw [if_pos rfl, if_neg (by omega), if_pos (by omega), show 60 * u + y + (n - 1 - i) - (60 * u + y) = n - 1 - i by omega]
    · rw [if_neg h1]
      by_cases h2 : 60 * u + y + (n - i) ≤ j ∧ j < 60 * u + y + n
      · rw [if_pos h2, if_pos (by omega)]
      · rw [if_neg h2, if_neg (by omega)]
  · intro m
    simp only [f_X11_pour_158]
    rw [if_pos (by omega), Nat.sub_self]
/-- what POUR answers -/
def poS (M : AM) (a1 a2 a3 a4 a5 : Int) : Int :=
  if (0 ≤ a1 ∧ a1 < 4) ∧ (0 ≤ a3 ∧ a3 < 4) then
    (if 0 ≤ M 2 a1.toNat ∧ 0 ≤ M 2 a3.toNat then
      (if M 1 a1.toNat = M 1 a3.toNat then
        (if 0 ≤ a5 then (if (0 ≤ a2 ∧ a2 + a5 ≤ M 2 a1.toNat) ∧ (0 ≤ a4 ∧ a4 + a5 ≤ M 2 a3.toNat) then 0 else 4) else 6)
        else 11)
      else 3)
    else 1
theorem poS_1 {M : AM} {a1 a2 a3 a4 a5 : Int} (g : ¬ ((0 ≤ a1 ∧ a1 < 4) ∧ (0 ≤ a3 ∧ a3 < 4))) : poS M a1 a2 a3 a4 a5 = 1 := by unfold poS; rw [if_neg g]
theorem poS_3 {M : AM} {a1 a2 a3 a4 a5 : Int} (g : (0 ≤ a1 ∧ a1 < 4) ∧ (0 ≤ a3 ∧ a3 < 4)) (h : ¬ (0 ≤ M 2 a1.toNat ∧ 0 ≤ M 2 a3.toNat)) : poS M a1 a2 a3 a4 a5 = 3 := by unfold poS; rw [if_pos g, if_neg h]
theorem poS_11 {M : AM} {a1 a2 a3 a4 a5 : Int} (g : (0 ≤ a1 ∧ a1 < 4) ∧ (0 ≤ a3 ∧ a3 < 4)) (h : 0 ≤ M 2 a1.toNat ∧ 0 ≤ M 2 a3.toNat) (h2 : ¬ M 1 a1.toNat = M 1 a3.toNat) : poS M a1 a2 a3 a4 a5 = 11 := by unfold poS; rw [if_pos g, if_pos h, if_neg h2]
theorem poS_6 {M : AM} {a1 a2 a3 a4 a5 : Int} (g : (0 ≤ a1 ∧ a1 < 4) ∧ (0 ≤ a3 ∧ a3 < 4)) (h : 0 ≤ M 2 a1.toNat ∧ 0 ≤ M 2 a3.toNat) (h2 : M 1 a1.toNat = M 1 a3.toNat) (h5 : ¬ 0 ≤ a5) : poS M a1 a2 a3 a4 a5 = 6 := by unfold poS; rw [if_pos g, if_pos h, if_pos h2, if_neg h5]
theorem poS_4 {M : AM} {a1 a2 a3 a4 a5 : Int} (g : (0 ≤ a1 ∧ a1 < 4) ∧ (0 ≤ a3 ∧ a3 < 4)) (h : 0 ≤ M 2 a1.toNat ∧ 0 ≤ M 2 a3.toNat) (h2 : M 1 a1.toNat = M 1 a3.toNat) (h5 : 0 ≤ a5) (h6 : ¬ ((0 ≤ a2 ∧ a2 + a5 ≤ M 2 a1.toNat) ∧ (0 ≤ a4 ∧ a4 + a5 ≤ M 2 a3.toNat))) : poS M a1 a2 a3 a4 a5 = 4 := by unfold poS; rw [if_pos g, if_pos h, if_pos h2, if_pos h5, if_neg h6]
def i32b (x : Int) : Prop := -2147483648 ≤ x ∧ x < 2147483648
theorem pour_ref {M : AM} (hR : RR M) {a1 a2 a3 a4 a5 : Int} (k2 : i32b a2) (k4 : i32b a4) (k5 : i32b a5)
    (g : ¬ (((0 ≤ a1 ∧ a1 < 4) ∧ (0 ≤ a3 ∧ a3 < 4)) ∧ (0 ≤ M 2 a1.toNat ∧ 0 ≤ M 2 a3.toNat) ∧ M 1 a1.toNat = M 1 a3.toNat ∧ 0 ≤ a5 ∧ (0 ≤ a2 ∧ a2 + a5 ≤ M 2 a1.toNat) ∧ (0 ≤ a4 ∧ a4 + a5 ≤ M 2 a3.toNat))) :
    ∃ v N1 N2, f_X10_pour a1 a2 a3 a4 a5 M = some (v, N1) ∧ f_X11_pour a1 a2 a3 a4 a5 N1 = some (v, N2) ∧ RR N2 := by
  have hT := hR.2.2.2.1
  obtain ⟨k21, k22⟩ := k2
  obtain ⟨k41, k42⟩ := k4
  obtain ⟨k51, k52⟩ := k5
  refine still hR 0 (poS M a1 a2 a3 a4 a5) ?_ ?_
  · unfold f_X10_pour f_X10_pour_14 f_X10_pour_52 f_X10_pour_113
    rw [x_isTray, bind_s]
    simp only [x_refuse, bind_s, true_or, if_true]
    by_cases g1 : 0 ≤ a1 ∧ a1 < 4
    · simp only [if_pos g1, i10, if_false]
      rw [x_isTray, bind_s]
      by_cases g2 : 0 ≤ a3 ∧ a3 < 4
      · simp only [if_pos g2, i10, not_false_eq_true, if_true, q74]
        by_cases g3 : 0 ≤ M 2 a1.toNat
        · obtain ⟨b1, b2, b3, b4, b5, b6, b7⟩ := Rt_made hT (t := a1.toNat) (by omega) g3
          rw [b1, if_neg (by decide)]
          by_cases g4 : 0 ≤ M 2 a3.toNat
          · obtain ⟨d1, d2, d3, d4, d5, d6, d7⟩ := Rt_made hT (t := a3.toNat) (by omega) g4
            rw [d1, if_pos (by decide), b2, d2]
            by_cases g5 : M 1 a1.toNat = M 1 a3.toNat
            · rw [if_pos g5]
              by_cases g6 : 0 ≤ a5
              · rw [if_pos g6, x_hasRow (by omega), bind_s, b3]
                have g7 : ¬ ((0 ≤ a2 ∧ a2 + a5 ≤ M 2 a1.toNat) ∧ (0 ≤ a4 ∧ a4 + a5 ≤ M 2 a3.toNat)) := fun h => g ⟨⟨g1, g2⟩, ⟨g3, g4⟩, g5, g6, h.1, h.2⟩
                rw [poS_4 ⟨g1, g2⟩ ⟨g3, g4⟩ g5 g6 g7]
                by_cases g8 : 0 ≤ a2 ∧ 0 ≤ a5 ∧ a2 + a5 ≤ M 2 a1.toNat
                · simp only [if_pos g8, i10, if_false]
                  rw [x_hasRow (by omega), bind_s, d3]
                  have g9 : ¬ (0 ≤ a4 ∧ 0 ≤ a5 ∧ a4 + a5 ≤ M 2 a3.toNat) := fun h => g7 ⟨⟨g8.1, g8.2.2⟩, ⟨h.1, h.2.2⟩⟩
                  simp only [if_neg g9, not_true_eq_false, if_false]
                · simp only [if_neg g8, if_true]
              · rw [if_neg g6, poS_6 ⟨g1, g2⟩ ⟨g3, g4⟩ g5 g6]
            · rw [if_neg g5, poS_11 ⟨g1, g2⟩ ⟨g3, g4⟩ g5]
          · rw [Rt_not hT (by omega) g4, if_neg (fun h => h rfl), poS_3 ⟨g1, g2⟩ (fun h => g4 h.2)]
        · rw [Rt_not hT (by omega) g3, if_pos rfl, poS_3 ⟨g1, g2⟩ (fun h => g3 h.1)]
      · simp only [if_neg g2, not_true_eq_false, if_false]
        rw [poS_1 (fun h => g2 h.2)]
    · simp only [if_neg g1, if_true]
      rw [poS_1 (fun h => g1 h.1)]
  · unfold f_X11_pour f_X11_pour_28 f_X11_pour_52 f_X11_pour_136
    rw [zlet_eq, zlet_eq]
    have c2 := st_row2 (M := M) (s := poS M a1 a2 a3 a4 a5) (u := 0) (x := 2) (by decide) (by decide)
    have c1 := st_row2 (M := M) (s := poS M a1 a2 a3 a4 a5) (u := 0) (x := 1) (by decide) (by decide)
    generalize hZ : am_upd (am_upd (am_upd M 15 0 (poS M a1 a2 a3 a4 a5)) 0 1 0) 0 0 0 = Z at c2 c1
    have hz : ∀ v, am_upd Z 0 0 v = am_upd (am_upd (am_upd M 15 0 (poS M a1 a2 a3 a4 a5)) 0 1 0) 0 0 v := fun v => by rw [← hZ, am_upd_tw]
    rw [← hz (poS M a1 a2 a3 a4 a5)]
    simp only [m_no, bind_s, true_or, if_true, c1, c2]
    by_cases h1 : a1 < 0
    · rw [if_pos h1, poS_1 (by omega)]
    · rw [if_neg h1]
      by_cases h2 : 4 ≤ a1
      · rw [if_pos h2, poS_1 (by omega)]
      · rw [if_neg h2]
        by_cases h3 : a3 < 0
        · rw [if_pos h3, poS_1 (by omega)]
        · rw [if_neg h3]
          by_cases h4 : a3 < 4
          · have g1 : 0 ≤ a1 ∧ a1 < 4 := by omega
            have g2 : 0 ≤ a3 ∧ a3 < 4 := by omega
            rw [if_pos h4, if_pos g1]
            by_cases g3 : 0 ≤ M 2 a1.toNat
            · have b4 := (Rt_made hT (t := a1.toNat) (by omega) g3).2.2.2.1
              rw [if_neg (by omega), if_pos g2]
              by_cases g4 : 0 ≤ M 2 a3.toNat
              · have d4 := (Rt_made hT (t := a3.toNat) (by omega) g4).2.2.2.1
                rw [if_pos g4]
                by_cases g5 : M 1 a1.toNat = M 1 a3.toNat
                · rw [if_pos g5]
                  by_cases g6 : 0 ≤ a5
                  · have g7 : ¬ ((0 ≤ a2 ∧ a2 + a5 ≤ M 2 a1.toNat) ∧ (0 ≤ a4 ∧ a4 + a5 ≤ M 2 a3.toNat)) := fun h => g ⟨⟨g1, g2⟩, ⟨g3, g4⟩, g5, g6, h.1, h.2⟩
                    rw [if_pos g6, poS_4 ⟨g1, g2⟩ ⟨g3, g4⟩ g5 g6 g7]
                    by_cases e2 : a2 < 0
                    · rw [if_pos e2]
                    · rw [if_neg e2]
                      by_cases e4 : a4 < 0
                      · rw [if_pos e4]
                      · rw [if_neg e4]
                        simp only [l_cmp_gt, l_cmp_le]
                        rw [l_add_eq (by omega) (by omega), l_add_eq (by omega) (by omega)]
                        by_cases e5 : M 2 a1.toNat < a2 + a5
                        · rw [if_pos e5]
                        · rw [if_neg e5, if_neg (by omega)]
                  · rw [if_neg g6, poS_6 ⟨g1, g2⟩ ⟨g3, g4⟩ g5 g6]
                · rw [if_neg g5, poS_11 ⟨g1, g2⟩ ⟨g3, g4⟩ g5]
              · rw [if_neg g4, poS_3 ⟨g1, g2⟩ (fun h => g4 h.2)]
            · rw [if_pos (by omega), poS_3 ⟨g1, g2⟩ (fun h => g3 h.1)]
          · rw [if_neg h4, poS_1 (by omega)]
theorem a_pour (a1 a2 a3 a4 a5 : Int) (k2 : i32b a2) (k4 : i32b a4) (k5 : i32b a5) : Alike (f_X10_pour a1 a2 a3 a4 a5) (f_X11_pour a1 a2 a3 a4 a5) := by
  intro M hR
  have hT := hR.2.2.2.1
  by_cases g : (((0 ≤ a1 ∧ a1 < 4) ∧ (0 ≤ a3 ∧ a3 < 4)) ∧ (0 ≤ M 2 a1.toNat ∧ 0 ≤ M 2 a3.toNat) ∧ M 1 a1.toNat = M 1 a3.toNat ∧ 0 ≤ a5 ∧ (0 ≤ a2 ∧ a2 + a5 ≤ M 2 a1.toNat) ∧ (0 ≤ a4 ∧ a4 + a5 ≤ M 2 a3.toNat))
  · obtain ⟨⟨g1, g2⟩, ⟨g3, g4⟩, g5, g6, ⟨g7, g8⟩, ⟨g9, g10⟩⟩ := g
    obtain ⟨t, rfl⟩ : ∃ t : Nat, a1 = (t : Int) := ⟨a1.toNat, by omega⟩
    obtain ⟨u, rfl⟩ : ∃ t : Nat, a3 = (t : Int) := ⟨a3.toNat, by omega⟩
    obtain ⟨x, rfl⟩ : ∃ t : Nat, a2 = (t : Int) := ⟨a2.toNat, by omega⟩
    obtain ⟨y, rfl⟩ : ∃ t : Nat, a4 = (t : Int) := ⟨a4.toNat, by omega⟩
    obtain ⟨n, rfl⟩ : ∃ t : Nat, a5 = (t : Int) := ⟨a5.toNat, by omega⟩
    rw [tnc] at g3 g5 g8
    rw [tnc] at g4 g5 g10
    obtain ⟨b1, b2, b3, b4, b5, b6, b7⟩ := Rt_made hT (t := t) (by omega) g3
    obtain ⟨d1, d2, d3, d4, d5, d6, d7⟩ := Rt_made hT (t := u) (by omega) g4
    have ex : f_X10_pour (t : Int) (x : Int) (u : Int) (y : Int) (n : Int) M = some (1, am_upd (am_row M (75 + 2 * u) (cp_row (M (75 + 2 * t)) (M (75 + 2 * u)) x y n)) 15 0 0) := by
      unfold f_X10_pour
      rw [x_isTray, bind_s]
      simp only [if_pos g1, i10, if_false]
      rw [x_isTray, bind_s]
      simp only [if_pos g2, i10, not_false_eq_true, if_true, tnc, q74, b1, d1, b2, d2, if_false]
      rw [if_pos g5, if_pos g6, x_hasRow (by omega), bind_s, b3]
      simp only [if_pos (show 0 ≤ (x : Int) ∧ 0 ≤ (n : Int) ∧ (x : Int) + (n : Int) ≤ M 2 t by omega), i10, if_false]
      rw [x_hasRow (by omega), bind_s, d3]
      simp only [if_pos (show 0 ≤ (y : Int) ∧ 0 ≤ (n : Int) ∧ (y : Int) + (n : Int) ≤ M 2 u by omega), i10, not_false_eq_true, if_true]
      rw [if_pos (by omega), zlet_eq, q75, q75, x_agree, bind_s, if_pos (Or.inr rfl)]
    generalize hP : am_upd (am_row M (75 + 2 * u) (cp_row (M (75 + 2 * t)) (M (75 + 2 * u)) x y n)) 15 0 0 = P at ex
    have pc : ∀ z, z ≠ 15 → z < 74 ∨ 82 ≤ z → P z = M z := fun z a b => by rw [← hP, am_upd_cell a, am_row_ne (by omega)]
    obtain ⟨M2, hM2, e5, q2, s2, hc, hf⟩ := MS_ok P
    have c1 : M2 1 = M 1 := by rw [hc 1 (by decide), pc 1 (by decide) (by omega)]
    have c2 : M2 2 = M 2 := by rw [hc 2 (by decide), pc 2 (by decide) (by omega)]
    have c3 : M2 3 = M 3 := by rw [hc 3 (by decide), pc 3 (by decide) (by omega)]
    have em : f_X11_pour (t : Int) (x : Int) (u : Int) (y : Int) (n : Int) P = some (1, am_row M2 3 (poF (M2 3) (60 * t + x) (60 * u + y) 0 n)) := by
      unfold f_X11_pour
      rw [zlet_eq, zlet_eq, hM2]
      simp only [tnc, c1, c2, l_cmp_gt, l_cmp_le]
      rw [if_neg (by omega), if_neg (by omega), if_neg (by omega), if_pos (by omega), if_pos g1, if_neg (by omega), if_pos g2, if_pos g4, if_pos g5, if_pos g6, if_neg (by omega), if_neg (by omega), l_add_eq (by omega) (by omega), l_add_eq (by omega) (by omega), if_neg (by omega), if_pos g10]
      by_cases hle : y ≤ x
      · rw [if_pos (by omega), m_pour0 (by omega) (by omega) (by omega) (by omega) hle]
      · rw [if_neg (by omega), m_pour1 (by omega) (by omega) (by omega) (by omega) (by omega)]
    refine ⟨_, P, _, ex, em, RR_tray hR pc ?_ ?_ ?_ ?_ ?_⟩
    · intro i hi
      rw [← hP, am_upd_ne (fun h => hi h.2), am_row_ne (by omega)]
    · intro z hz
      rw [am_row_ne (by omega)]
      exact hc z (by omega)
    · have := q2.2
      unfold Qf at this ⊢
      rw [am_row_ne (by decide)]
      exact this
    · intro w hw
      have P74 : P (74 + 2 * w) = M (74 + 2 * w) := by rw [← hP, am_upd_cell (by omega), am_row_ne (by omega)]
      rw [am_row_self, am_row_ne (show 74 + 2 * w ≠ 3 by omega), am_row_ne (show 75 + 2 * w ≠ 3 by omega), am_row_ne (show 2 ≠ 3 by decide), am_row_ne (show 1 ≠ 3 by decide), hc _ (show 74 + 2 * w ≠ 0 by omega), hc _ (show 75 + 2 * w ≠ 0 by omega), P74, c1, c2, c3]
      rcases hT w hw with c | ⟨w1, w2, w3, w4, w5, w6, w7, w8⟩
      · exact Or.inl c
      · refine Or.inr ⟨w1, w2, w3, w4, w5, w6, w7, fun k hk => ?_⟩
        unfold poF
        by_cases e : w = u
        · subst e
          rw [← hP, am_upd_cell (by omega), am_row_self]
          unfold cp_row
          by_cases e2 : y ≤ k ∧ k < y + n
          · rw [if_pos e2, if_pos (by omega), b7 _ (by omega), show 60 * t + (x + (k - y)) = 60 * t + x + (60 * w + k - (60 * w + y)) by omega]
          · rw [if_neg e2, if_neg (by omega)]
            exact w8 k hk
        · rw [← hP, am_upd_cell (by omega), am_row_ne (by omega), if_neg (by omega)]
          exact w8 k hk
    · rw [am_row_ne (by decide), s2, ← hP, am_upd_self]
  · exact pour_ref hR k2 k4 k5 g
