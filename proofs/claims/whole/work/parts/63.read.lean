/-! READ, and the refusals of trays -/
/-- the trays stay as they are: only words of the rows 15 and 0 change -/
theorem RR_still {M N1 N2 : AM} (hR : RR M) (hx1 : ∀ x, x ≠ 15 → N1 x = M x) (hx2 : ∀ j, j ≠ 0 → N1 15 j = M 15 j) (hm : ∀ x, x ≠ 0 → N2 x = N1 x) (hf : ∀ j, j ≠ 0 → j ≠ 1 → N2 0 j = N1 0 j) (hs : N2 0 0 = N1 15 0) : RR N2 := by
  refine RR_tray hR (fun x a _ => hx1 x a) hx2 (fun x hx => hm x (by omega)) ?_ (Rt_same (M := M) ?_ ?_ ?_ ?_ hR.2.2.2.1) hs
  · exact ⟨hf 2 (by decide) (by decide), hf 3 (by decide) (by decide), hf 8 (by decide) (by decide), hf 10 (by decide) (by decide), hf 11 (by decide) (by decide), hf 24 (by decide) (by decide), hf 34 (by decide) (by decide)⟩
  · exact (hm 1 (by decide)).trans (hx1 1 (by decide))
  · exact (hm 2 (by decide)).trans (hx1 2 (by decide))
  · exact (hm 3 (by decide)).trans (hx1 3 (by decide))
  · exact fun x a b => (hm x (by omega)).trans (hx1 x (by omega))
theorem still {fx fm : AM → Option (Int × AM)} {M : AM} (hR : RR M) (v s : Int) (hx : fx M = some (v, am_upd M 15 0 s)) (hm : fm (am_upd M 15 0 s) = some (v, am_upd (am_upd (am_upd M 15 0 s) 0 1 0) 0 0 s)) : ∃ v N1 N2, fx M = some (v, N1) ∧ fm N1 = some (v, N2) ∧ RR N2 := by
  refine ⟨v, _, _, hx, hm, RR_still (N1 := am_upd M 15 0 s) hR ?_ ?_ ?_ ?_ ?_⟩
  · exact fun x a => am_upd_cell a
  · exact fun j hj => am_upd_ne (fun h => hj h.2)
  · exact fun x hx => by rw [am_upd_cell hx, am_upd_cell hx]
  · exact fun j h0 h1 => by rw [am_upd_ne (fun h => h0 h.2), am_upd_ne (fun h => h1 h.2)]
  · rw [am_upd_self, am_upd_self]
/-- the model's row of a call's state -/
theorem st_row {M : AM} {s : Int} {x : Nat} (h0 : x ≠ 0) (h15 : x ≠ 15) : am_upd (am_upd M 15 0 s) 0 1 0 x = M x := by rw [am_upd_cell h0, am_upd_cell h15]
theorem st_row2 {M : AM} {s u : Int} {x : Nat} (h0 : x ≠ 0) (h15 : x ≠ 15) : am_upd (am_upd (am_upd M 15 0 s) 0 1 0) 0 0 u x = M x := by rw [am_upd_cell h0, am_upd_cell h0, am_upd_cell h15]
theorem a_read (a1 a2 : Int) : Alike (f_X10_read a1 a2) (f_X11_read a1 a2) := by
  intro M hR
  have hT := hR.2.2.2.1
  have hnn := pl_nn M a1 a2
  by_cases g : pl M a1 a2 = 0
  · obtain ⟨g1, g2, g3, g4⟩ := pl_0 g
    obtain ⟨t, rfl⟩ : ∃ t : Nat, a1 = (t : Int) := ⟨a1.toNat, by omega⟩
    obtain ⟨j, rfl⟩ : ∃ j : Nat, a2 = (j : Int) := ⟨a2.toNat, by omega⟩
    rw [tnc] at g2 g4
    obtain ⟨b1, b2, b3, b4, _, _, b7⟩ := Rt_made hT (by omega) g2
    refine still hR (M 3 (60 * t + j)) 0 ?_ ?_
    · unfold f_X10_read f_X6_get
      have e3 : am_upd M 15 0 0 (74 + 2 * t) 3 = M 2 t := by rw [am_upd_cell (by omega)]; exact b3
      rw [x_wrongPlace hT, bind_s]
      dsimp only
      rw [if_pos g, zlet_eq, if_pos g1, tnc, q74, x_hasRow (by omega), bind_s, e3]
      simp only [if_pos (show 0 ≤ (j : Int) ∧ (0 : Int) ≤ 1 ∧ (j : Int) + 1 ≤ M 2 t by omega), i10, if_false]
      rw [if_pos (by omega), bind_s, tnc, q75, am_upd_cell (show ¬ 75 + 2 * t = 15 by omega), b7 j g4]
    · unfold f_X11_read
      rw [zlet_eq, m_placed, bind_s, pl_cong (st_row (M := M) (s := 0) (x := 2) (by decide) (by decide)), g]
      dsimp only
      rw [zlet_eq, am_upd_self, if_pos (by decide), o_mul_eq (by omega) (by omega), o_add_eq (by omega) (by omega), if_pos (by omega), show ((60 : Int) * (t : Int) + (j : Int)).toNat = 60 * t + j by omega, st_row2 (by decide) (by decide)]
  · refine still hR (-1) (pl M a1 a2) ?_ ?_
    · unfold f_X10_read
      rw [x_wrongPlace hT, bind_s]
      dsimp only
      rw [if_neg g, x_fail, bind_s]
    · unfold f_X11_read
      rw [zlet_eq, m_placed, bind_s, pl_cong (st_row (M := M) (s := pl M a1 a2) (x := 2) (by decide) (by decide))]
      dsimp only
      rw [zlet_eq, am_upd_self, if_neg (by omega)]
