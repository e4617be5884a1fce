/-! TRAY -/
theorem am_upd_tw (M : AM) (q j : Nat) (x y : Int) : am_upd (am_upd M q j x) q j y = am_upd M q j y := by
  funext a b
  simp only [am_upd_eq]
  by_cases h : a = q ∧ b = j
  · rw [if_pos h, if_pos h]
  · rw [if_neg h, if_neg h, if_neg h]
def trS (a1 a2 a3 : Int) : Int := if (0 ≤ a1 ∧ a1 < 4) ∧ (0 ≤ a2 ∧ a2 < 4) then (if a3 ≤ 60 then (if 0 ≤ a3 then 0 else 6) else 5) else 1
def zr3 (M : AM) (t i : Nat) : Nat → Int := fun j => if 60 * t ≤ j ∧ j < 60 * t + i then 0 else M 3 j
theorem m_zero {M : AM} {t n : Nat} (ht : t < 4) (hn : n ≤ 60) : f_X11_tray_74 zB (t : Int) (n : Int) 0 M = some (1, am_row M 3 (zr3 M t n)) := by
  refine up_loop0 (fun m i (s : AM) => f_X11_tray_74 m (t : Int) (n : Int) (i : Int) s) (fun i => am_row M 3 (zr3 M t i)) n _ M ?_ ?_ ?_ (by omega)
  · exact am_row_id _ _ _ (by funext j; unfold zr3; rw [if_neg (by omega)])
  · intro m i hi
    simp only [f_X11_tray_74]
    rw [if_neg (by omega), o_mul_eq (by omega) (by omega), o_add_eq (by omega) (by omega), if_pos (by omega), zlet_eq, show ((60 : Int) * (t : Int) + (i : Int)).toNat = 60 * t + i by omega, o_succ (by omega), am_row_upd]
    congr 1
    congr 1
    funext j
    unfold zr3
    by_cases h1 : j = 60 * t + i
    · rw [if_pos h1, if_pos (by omega)]
    · rw [if_neg h1]
      by_cases h2 : 60 * t ≤ j ∧ j < 60 * t + i
      · rw [if_pos h2, if_pos (by omega)]
      · rw [if_neg h2, if_neg (by omega)]
  · intro m
    simp only [f_X11_tray_74]
    rw [if_pos (by omega)]
theorem trS_0 {a1 a2 a3 : Int} (g1 : 0 ≤ a1 ∧ a1 < 4) (g2 : 0 ≤ a2 ∧ a2 < 4) (g3 : a3 ≤ 60) (g4 : 0 ≤ a3) : trS a1 a2 a3 = 0 := by unfold trS; rw [if_pos ⟨g1, g2⟩, if_pos g3, if_pos g4]
theorem trS_6 {a1 a2 a3 : Int} (g1 : 0 ≤ a1 ∧ a1 < 4) (g2 : 0 ≤ a2 ∧ a2 < 4) (g3 : a3 ≤ 60) (g4 : ¬ 0 ≤ a3) : trS a1 a2 a3 = 6 := by unfold trS; rw [if_pos ⟨g1, g2⟩, if_pos g3, if_neg g4]
theorem trS_5 {a1 a2 a3 : Int} (g1 : 0 ≤ a1 ∧ a1 < 4) (g2 : 0 ≤ a2 ∧ a2 < 4) (g3 : ¬ a3 ≤ 60) : trS a1 a2 a3 = 5 := by unfold trS; rw [if_pos ⟨g1, g2⟩, if_neg g3]
theorem trS_1 {a1 a2 a3 : Int} (g : ¬ ((0 ≤ a1 ∧ a1 < 4) ∧ (0 ≤ a2 ∧ a2 < 4))) : trS a1 a2 a3 = 1 := by unfold trS; rw [if_neg g]
theorem tray_ref {M : AM} (hR : RR M) {a1 a2 a3 : Int} (g : ¬ ((0 ≤ a1 ∧ a1 < 4) ∧ (0 ≤ a2 ∧ a2 < 4) ∧ a3 ≤ 60 ∧ 0 ≤ a3)) : ∃ v N1 N2, f_X10_tray a1 a2 a3 M = some (v, N1) ∧ f_X11_tray a1 a2 a3 N1 = some (v, N2) ∧ RR N2 := by
  refine still hR 0 (trS a1 a2 a3) ?_ ?_
  · unfold f_X10_tray f_X10_tray_16
    rw [x_isTray, bind_s]
    by_cases g1 : 0 ≤ a1 ∧ a1 < 4
    · simp only [if_pos g1, i10, if_false, x_refuse, bind_s, true_or, if_true]
      by_cases g2 : a2 < 0
      · rw [if_pos g2, trS_1 (by omega)]
      · rw [if_neg g2]
        by_cases g3 : a2 < 4
        · rw [if_pos g3]
          by_cases g4 : a3 ≤ 60
          · rw [if_pos g4, if_neg (fun h => g ⟨g1, ⟨by omega, g3⟩, g4, h⟩), trS_6 g1 ⟨by omega, g3⟩ g4 (fun h => g ⟨g1, ⟨by omega, g3⟩, g4, h⟩)]
          · rw [if_neg g4, trS_5 g1 ⟨by omega, g3⟩ g4]
        · rw [if_neg g3, trS_1 (by omega)]
    · simp only [if_neg g1, x_refuse, bind_s, true_or, if_true]
      rw [trS_1 (by omega)]
  · unfold f_X11_tray f_X11_tray_28
    rw [zlet_eq, zlet_eq]
    simp only [m_no, bind_s, true_or, if_true, am_upd_tw]
    by_cases h1 : a1 < 0
    · rw [if_pos h1, trS_1 (by omega)]
    · rw [if_neg h1]
      by_cases h2 : 4 ≤ a1
      · rw [if_pos h2, trS_1 (by omega)]
      · rw [if_neg h2]
        by_cases h3 : a2 < 0
        · rw [if_pos h3, trS_1 (by omega)]
        · rw [if_neg h3]
          by_cases h4 : a2 ≤ 3
          · rw [if_pos h4]
            by_cases h5 : a3 ≤ 60
            · have h6 : ¬ 0 ≤ a3 := fun h => g ⟨⟨by omega, by omega⟩, ⟨by omega, by omega⟩, h5, h⟩
              rw [if_pos h5, if_neg h6, trS_6 ⟨by omega, by omega⟩ ⟨by omega, by omega⟩ h5 h6]
            · rw [if_neg h5, trS_5 ⟨by omega, by omega⟩ ⟨by omega, by omega⟩ h5]
          · rw [if_neg h4, trS_1 (by omega)]
theorem a_tray (a1 a2 a3 : Int) : Alike (f_X10_tray a1 a2 a3) (f_X11_tray a1 a2 a3) := by
  intro M hR
  by_cases g : (0 ≤ a1 ∧ a1 < 4) ∧ (0 ≤ a2 ∧ a2 < 4) ∧ a3 ≤ 60 ∧ 0 ≤ a3
  · obtain ⟨g1, g2, g3, g4⟩ := g
    have hT := hR.2.2.2.1
    obtain ⟨t, rfl⟩ : ∃ t : Nat, a1 = (t : Int) := ⟨a1.toNat, by omega⟩
    obtain ⟨n, rfl⟩ : ∃ n : Nat, a3 = (n : Int) := ⟨a3.toNat, by omega⟩
    obtain ⟨Q, hQ⟩ : ∃ Q, Q = am_upd (am_upd (am_upd M (74 + 2 * t) 2 a2) (74 + 2 * t) 3 (n : Int)) (74 + 2 * t) 1 1 := ⟨_, rfl⟩
    have ex : f_X10_tray (t : Int) a2 (n : Int) M = some (1, am_upd (am_row Q (75 + 2 * t) (fun j => if j < 60 then 0 else Q (75 + 2 * t) j)) 15 0 0) := by
      unfold f_X10_tray f_X6_make
      rw [x_isTray, bind_s]
      simp only [if_pos g1, i10, if_false, tnc, q74]
      rw [if_neg (by omega), if_pos (by omega), if_pos g3, if_pos g4, zlet_eq, zlet_eq, zlet_eq, ← hQ, q75, J7_fillL 0 Q (by decide), bind_s, bind_s, x_agree, bind_s, if_pos (Or.inr rfl)]
    generalize hP : am_upd (am_row Q (75 + 2 * t) (fun j => if j < 60 then 0 else Q (75 + 2 * t) j)) 15 0 0 = P at ex
    have pc : ∀ x, x ≠ 15 → x < 74 ∨ 82 ≤ x → P x = M x := fun x a b => by rw [← hP, am_upd_cell a, am_row_ne (by omega), hQ, am_upd_cell (by omega), am_upd_cell (by omega), am_upd_cell (by omega)]
    obtain ⟨M2, hM2, e5, q2, s2, hc, hf⟩ := MS_ok P
    obtain ⟨K, hK⟩ : ∃ K, K = am_upd (am_upd M2 1 t a2) 2 t (n : Int) := ⟨_, rfl⟩
    have em : f_X11_tray (t : Int) a2 (n : Int) P = some (1, am_row K 3 (zr3 K t n)) := by
      unfold f_X11_tray
      rw [zlet_eq, zlet_eq, hM2, if_neg (by omega), if_neg (by omega), if_neg (by omega), if_pos (by omega), if_pos g3, if_pos g4, if_pos g1, zlet_eq, zlet_eq, tnc, ← hK, m_zero (by omega) (by omega)]
    have kc : ∀ x, x ≠ 1 → x ≠ 2 → K x = M2 x := fun x h1 h2 => by rw [hK, am_upd_cell h2, am_upd_cell h1]
    have k3 : K 3 = M 3 := by rw [kc 3 (by decide) (by decide), hc 3 (by decide), pc 3 (by decide) (by omega)]
    refine ⟨_, P, _, ex, em, RR_tray hR pc ?_ ?_ ?_ ?_ ?_⟩
    · intro i hi
      rw [← hP, am_upd_ne (fun h => hi h.2), am_row_ne (by omega), hQ, am_upd_cell (by omega), am_upd_cell (by omega), am_upd_cell (by omega)]
    · intro x hx
      rw [am_row_ne (by omega), kc x (by omega) (by omega)]
      exact hc x (by omega)
    · have := q2.2
      unfold Qf at this ⊢
      rw [am_row_ne (by decide), kc 0 (by decide) (by decide)]
      exact this
    · intro u hu
      have P74 : P (74 + 2 * u) = Q (74 + 2 * u) := by rw [← hP, am_upd_cell (by omega), am_row_ne (by omega)]
      have R1 : am_row K 3 (zr3 K t n) (74 + 2 * u) = Q (74 + 2 * u) := by rw [am_row_ne (by omega), kc _ (by omega) (by omega), hc _ (by omega), P74]
      have R2 : am_row K 3 (zr3 K t n) 2 = K 2 := am_row_ne (by decide)
      have R4 : am_row K 3 (zr3 K t n) 1 = K 1 := am_row_ne (by decide)
      have R3 : am_row K 3 (zr3 K t n) 3 = zr3 K t n := am_row_self _ _ _
      have R5 : am_row K 3 (zr3 K t n) (75 + 2 * u) = P (75 + 2 * u) := by rw [am_row_ne (by omega), kc _ (by omega) (by omega), hc _ (by omega)]
      rw [R1, R2, R3, R4, R5]
      by_cases e : u = t
      · subst e
        right
        have K2 : K 2 u = (n : Int) := by rw [hK, am_upd_self]
        have K1 : K 1 u = a2 := by rw [hK, am_upd_cell (by decide), am_upd_self]
        rw [K1, K2]
        refine ⟨?_, ?_, ?_, by omega, by omega, by omega, by omega, fun k hk => ?_⟩
        · rw [hQ, am_upd_self]
        · rw [hQ, am_upd_ne (by omega), am_upd_ne (by omega), am_upd_self]
        · rw [hQ, am_upd_ne (by omega), am_upd_self]
        · rw [← hP, am_upd_cell (by omega), am_row_self]
          unfold zr3
          simp only [if_pos (show k < 60 by omega), if_pos (show 60 * u ≤ 60 * u + k ∧ 60 * u + k < 60 * u + n by omega)]
      · have K2 : K 2 u = M 2 u := by rw [hK, am_upd_ne (by omega), am_upd_cell (by decide), hc 2 (by decide), pc 2 (by decide) (by omega)]
        have K1 : K 1 u = M 1 u := by rw [hK, am_upd_cell (by decide), am_upd_ne (by omega), hc 1 (by decide), pc 1 (by decide) (by omega)]
        have Q74 : Q (74 + 2 * u) = M (74 + 2 * u) := by rw [hQ, am_upd_cell (by omega), am_upd_cell (by omega), am_upd_cell (by omega)]
        have P75 : P (75 + 2 * u) = M (75 + 2 * u) := by rw [← hP, am_upd_cell (by omega), am_row_ne (by omega), hQ, am_upd_cell (by omega), am_upd_cell (by omega), am_upd_cell (by omega)]
        rw [Q74, P75, K1, K2]
        rcases hT u hu with c | ⟨c1, c2, c3, c4, c5, c6, c7, c8⟩
        · exact Or.inl c
        · refine Or.inr ⟨c1, c2, c3, c4, c5, c6, c7, fun k hk => ?_⟩
          rw [c8 k hk]
          unfold zr3
          rw [if_neg (by omega), k3]
    · rw [am_row_ne (by decide), kc 0 (by decide) (by decide), s2, ← hP, am_upd_self]
  · exact tray_ref hR g
