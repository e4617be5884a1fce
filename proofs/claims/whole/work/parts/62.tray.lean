/-! the trays -/
theorem RR_tray {M N1 N2 : AM} (hR : RR M) (hx1 : ∀ x, x ≠ 15 → x < 74 ∨ 82 ≤ x → N1 x = M x) (hx2 : ∀ j, j ≠ 0 → N1 15 j = M 15 j) (hm : ∀ x, 3 < x → N2 x = N1 x) (hf : Qf N1 N2) (hT : Rt N2) (hs : N2 0 0 = N1 15 0) : RR N2 := by
  obtain ⟨r1, r2, r3, r4, r5, r6, r7, ⟨k, hk, e1, e2, hbm⟩, ⟨l1, l2, l3⟩⟩ := hR
  obtain ⟨f2, f3, f8, f10, f11, f24, f34⟩ := hf
  have h0 : N1 0 = M 0 := hx1 0 (by decide) (by omega)
  have h15 : N2 15 = N1 15 := hm 15 (by decide)
  have hc : ∀ x, 3 < x → x ≠ 15 → x < 74 ∨ 82 ≤ x → N2 x = M x := fun x a1 a2 a3 => (hm x a1).trans (hx1 x a2 a3)
  rw [h0] at f2 f3 f8 f10 f11 f24 f34
  have h5 := hc 5 (by omega) (by omega) (by omega)
  have h8 := hc 8 (by omega) (by omega) (by omega)
  refine ⟨by rw [h15, hs], ?_, ?_, hT, ?_, ?_, ?_, ?_, ?_⟩
  · rw [h15, hx2 1 (by decide), hx2 2 (by decide), f2, f3]; exact r2
  · rw [h15, hx2 4 (by decide), hx2 5 (by decide), f10, f11]; exact r3
  · unfold Rp at r5 ⊢
    rw [hc 20 (by omega) (by omega) (by omega), hc 21 (by omega) (by omega) (by omega), hc 4 (by omega) (by omega) (by omega), f8]
    exact r5
  · unfold Rk at r6 ⊢
    rw [hc 22 (by omega) (by omega) (by omega)]
    exact r6
  · exact Rb_cong (fun j hj => by rw [h5]) (fun j hj => by rw [h8]) (fun i hi => hc _ (by omega) (by omega) (by omega)) (fun i hi => hc _ (by omega) (by omega) (by omega)) r7
  · refine ⟨k, hk, by rw [h15, hx2 13 (by decide)]; exact e1, by rw [f24]; exact e2, fun i hi => ?_⟩
    exact Rb_cong (fun j hj => by rw [h5]) (fun j hj => by rw [h8]) (fun j hj => hc _ (by omega) (by omega) (by omega)) (fun j hj => hc _ (by omega) (by omega) (by omega)) (hbm i hi)
  · refine ⟨by rw [h15, hx2 19 (by decide), f34]; exact l1, by rw [f34]; exact l2, fun i hi => ?_⟩
    rw [hc 19 (by omega) (by omega) (by omega), hc 14 (by omega) (by omega) (by omega)]
    exact l3 i hi
theorem Rt_same {M N : AM} (h1 : N 1 = M 1) (h2 : N 2 = M 2) (h3 : N 3 = M 3) (h : ∀ x, 74 ≤ x → x < 82 → N x = M x) (hR : Rt M) : Rt N := Rt_cong h1 h2 h3 (fun t ht => ⟨h _ (by omega) (by omega), h _ (by omega) (by omega)⟩) hR
def pl (M : AM) (a1 a2 : Int) : Int := if 0 ≤ a1 ∧ a1 < 4 then (if 0 ≤ M 2 a1.toNat then (if 0 ≤ a2 ∧ a2 < M 2 a1.toNat then 0 else 4) else 3) else 1
theorem x_isTray (a : Int) (M : AM) : f_X10_isTray a M = some (if 0 ≤ a ∧ a < 4 then 1 else 0, M) := by
  unfold f_X10_isTray
  by_cases h : a < 0
  · rw [if_pos h, if_neg (by omega)]
  · rw [if_neg h]
    by_cases h2 : 4 ≤ a
    · rw [if_pos h2, if_neg (by omega)]
    · rw [if_neg h2, if_pos (by omega)]
theorem x_hasRow {q : Nat} {M : AM} (h : 0 ≤ M q 3 ∧ M q 3 ≤ 60) (a n : Int) : f_X6_hasRow q a n M = some (if 0 ≤ a ∧ 0 ≤ n ∧ a + n ≤ M q 3 then 1 else 0, M) := by
  unfold f_X6_hasRow
  by_cases h1 : a < 0
  · rw [if_pos h1, if_neg (by omega)]
  · rw [if_neg h1]
    by_cases h2 : n < 0
    · rw [if_pos h2, if_neg (by omega)]
    · rw [if_neg h2]
      by_cases h3 : M q 3 < n
      · rw [if_pos h3, if_neg (by omega)]
      · rw [if_neg h3, o_sub_eq (by omega) (by omega)]
        by_cases h4 : M q 3 - n < a
        · rw [if_pos h4, if_neg (by omega)]
        · rw [if_neg h4, if_pos (by omega)]
/-- what a made tray is -/
theorem Rt_made {M : AM} (h : Rt M) {t : Nat} (ht : t < 4) (hm : 0 ≤ M 2 t) : M (74 + 2 * t) 1 = 1 ∧ M (74 + 2 * t) 2 = M 1 t ∧ M (74 + 2 * t) 3 = M 2 t ∧ M 2 t ≤ 60 ∧ 0 ≤ M 1 t ∧ M 1 t ≤ 3 ∧ ∀ k : Nat, (k : Int) < M 2 t → M (75 + 2 * t) k = M 3 (60 * t + k) := by
  rcases h t ht with ⟨_, h2⟩ | ⟨a1, a2, a3, a4, a5, a6, a7, a8⟩
  · omega
  · exact ⟨a1, a2, a3, a5, a6, a7, a8⟩
theorem Rt_not {M : AM} (h : Rt M) {t : Nat} (ht : t < 4) (hm : ¬ 0 ≤ M 2 t) : M (74 + 2 * t) 1 = 0 := by
  rcases h t ht with ⟨h1, h2⟩ | ⟨a1, a2, a3, a4, a5, a6, a7, a8⟩
  · exact h1
  · omega
theorem q74 (t : Nat) : 16 + 58 + 2 * t = 74 + 2 * t := rfl
theorem q75 (t : Nat) : 74 + 2 * t + 1 = 75 + 2 * t := by omega
theorem x_wrongPlace {M : AM} (h : Rt M) (a1 a2 : Int) : f_X10_wrongPlace a1 a2 M = some (pl M a1 a2, M) := by
  unfold f_X10_wrongPlace pl
  rw [x_isTray, bind_s]
  by_cases g1 : 0 ≤ a1 ∧ a1 < 4
  · obtain ⟨t, rfl⟩ : ∃ t : Nat, a1 = (t : Int) := ⟨a1.toNat, by omega⟩
    simp only [if_pos g1, i10, not_false_eq_true, if_true, tnc, q74]
    by_cases g2 : 0 ≤ M 2 t
    · obtain ⟨b1, b2, b3, b4, _⟩ := Rt_made h (by omega) g2
      rw [b1, if_pos g2, if_pos (by decide), x_hasRow (by omega), bind_s, b3]
      by_cases g3 : 0 ≤ a2 ∧ a2 < M 2 t
      · rw [if_pos g3]
        simp only [if_pos (show 0 ≤ a2 ∧ (0 : Int) ≤ 1 ∧ a2 + 1 ≤ M 2 t by omega), i10, if_false]
      · rw [if_neg g3]
        simp only [if_neg (show ¬ (0 ≤ a2 ∧ (0 : Int) ≤ 1 ∧ a2 + 1 ≤ M 2 t) by omega), if_true]
    · rw [Rt_not h (by omega) g2, if_neg g2, if_neg (fun h => h rfl)]
  · simp only [if_neg g1, not_true_eq_false, if_false]
theorem m_placed (M : AM) (a1 a2 : Int) : f_X11_placed a1 a2 M = some (pl M a1 a2, M) := by
  unfold f_X11_placed f_X11_trayed pl
  by_cases g1 : 0 ≤ a1 ∧ a1 < 4
  · rw [if_neg (by omega), if_pos (by omega), if_pos g1, if_pos g1]
    by_cases g2 : 0 ≤ M 2 a1.toNat
    · rw [if_pos g2, if_pos g2, bind_s]
      dsimp only
      rw [if_pos (by decide)]
      by_cases g3 : a2 < 0
      · rw [if_pos g3, if_neg (by omega)]
      · rw [if_neg g3, if_pos g1]
        by_cases g4 : a2 < M 2 a1.toNat
        · rw [if_pos g4, if_pos (by omega)]
        · rw [if_neg g4, if_neg (by omega)]
    · rw [if_neg g2, if_neg g2, bind_s]
      dsimp only
      rw [if_neg (by decide)]
  · rw [if_neg g1, if_neg g1]
    by_cases g2 : a1 < 0
    · rw [if_pos g2, bind_s]
      dsimp only
      rw [if_neg (by decide)]
    · rw [if_neg g2, if_neg (by omega), bind_s]
      dsimp only
      rw [if_neg (by decide)]
theorem pl_cong {M N : AM} (h : N 2 = M 2) (a1 a2 : Int) : pl N a1 a2 = pl M a1 a2 := by unfold pl; rw [h]
theorem pl_0 {M : AM} {a1 a2 : Int} (h : pl M a1 a2 = 0) : (0 ≤ a1 ∧ a1 < 4) ∧ 0 ≤ M 2 a1.toNat ∧ 0 ≤ a2 ∧ a2 < M 2 a1.toNat := by
  unfold pl at h
  by_cases g1 : 0 ≤ a1 ∧ a1 < 4
  · rw [if_pos g1] at h
    by_cases g2 : 0 ≤ M 2 a1.toNat
    · rw [if_pos g2] at h
      by_cases g3 : 0 ≤ a2 ∧ a2 < M 2 a1.toNat
      · exact ⟨g1, g2, g3⟩
      · rw [if_neg g3] at h; exact absurd h (by decide)
    · rw [if_neg g2] at h; exact absurd h (by decide)
  · rw [if_neg g1] at h; exact absurd h (by decide)
theorem pl_nn (M : AM) (a1 a2 : Int) : 0 ≤ pl M a1 a2 := by
  unfold pl
  split
  · split
    · split <;> decide
    · decide
  · decide
def cutW (k v : Int) : Int := if k = 0 then o_i2b (o_l2i v) else if k = 1 then o_i2s (o_l2i v) else if k = 2 then o_l2i v else v
theorem x_cutTo (q : Nat) (v : Int) (M : AM) : f_X6_cutToWidth q v M = some (cutW (M q 2) v, M) := by
  unfold f_X6_cutToWidth cutW
  by_cases h0 : M q 2 = 0
  · rw [if_pos h0, if_pos h0]
  · rw [if_neg h0, if_neg h0]
    by_cases h1 : M q 2 = 1
    · rw [if_pos h1, if_pos h1]
    · rw [if_neg h1, if_neg h1]
      by_cases h2 : M q 2 = 2
      · rw [if_pos h2, if_pos h2]
      · rw [if_neg h2, if_neg h2]
theorem m_cutTo (k v : Int) (M : AM) : f_X11_cut k v M = some (cutW k v, M) := by
  unfold f_X11_cut cutW
  by_cases h0 : k = 0
  · rw [if_neg (fun h => h h0), if_pos h0]
  · rw [if_pos h0, if_neg h0]
    by_cases h1 : k = 1
    · rw [if_neg (fun h => h h1), if_pos h1]
    · rw [if_pos h1, if_neg h1]
      by_cases h2 : k = 2
      · rw [if_neg (fun h => h h2), if_pos h2]
      · rw [if_pos h2, if_neg h2]
theorem x_put {M : AM} (h : Rt M) {t j : Nat} (ht : t < 4) (hj : (j : Int) < M 2 t) (v : Int) : f_X6_put (74 + 2 * t) (j : Int) v M = some (am_upd M (75 + 2 * t) j (cutW (M 1 t) v)) := by
  obtain ⟨b1, b2, b3, b4, _⟩ := Rt_made h ht (by omega)
  unfold f_X6_put
  rw [x_hasRow (by omega), bind_s, b3]
  simp only [if_pos (show 0 ≤ (j : Int) ∧ (0 : Int) ≤ 1 ∧ (j : Int) + 1 ≤ M 2 t by omega), i10, if_false]
  rw [x_cutTo, bind_s, b2]
  dsimp only
  rw [if_pos (by omega), zlet_eq, tnc, q75]
theorem Rt_put {M N : AM} (h : Rt M) {t j : Nat} (ht : t < 4) (hj : (j : Int) < M 2 t) (v : Int) (h1 : N 1 = M 1) (h2 : N 2 = M 2) (h3 : N 3 = am_upd M 3 (60 * t + j) v 3) (h7 : ∀ x, 74 ≤ x → x < 82 → N x = am_upd M (75 + 2 * t) j v x) : Rt N := by
  intro u hu
  have e74 : N (74 + 2 * u) = M (74 + 2 * u) := by rw [h7 _ (by omega) (by omega), am_upd_cell (by omega)]
  have hjb := (Rt_made h ht (by omega)).2.2.2.1
  rw [e74, h1, h2]
  rcases h u hu with ⟨c1, c2⟩ | ⟨c1, c2, c3, c4, c5, c6, c7, c8⟩
  · exact Or.inl ⟨c1, c2⟩
  · refine Or.inr ⟨c1, c2, c3, c4, c5, c6, c7, fun k hk => ?_⟩
    rw [h3, h7 _ (by omega) (by omega)]
    by_cases e : u = t ∧ k = j
    · obtain ⟨rfl, rfl⟩ := e
      rw [am_upd_self, am_upd_self]
    · by_cases e2 : u = t
      · subst e2
        rw [am_upd_ne (by omega), am_upd_ne (by omega)]
        exact c8 k hk
      · rw [am_upd_cell (by omega), am_upd_ne (by omega)]
        exact c8 k hk
theorem a_write (a1 a2 a3 : Int) : Alike (f_X10_write a1 a2 a3) (f_X11_write a1 a2 a3) := by
  intro M hR
  have hT := hR.2.2.2.1
  by_cases g : pl M a1 a2 = 0
  · obtain ⟨g1, g2, g3, g4⟩ := pl_0 g
    obtain ⟨t, rfl⟩ : ∃ t : Nat, a1 = (t : Int) := ⟨a1.toNat, by omega⟩
    obtain ⟨j, rfl⟩ : ∃ j : Nat, a2 = (j : Int) := ⟨a2.toNat, by omega⟩
    rw [tnc] at g2 g4
    have b4 := (Rt_made hT (by omega) g2).2.2.2.1
    have ex : f_X10_write (t : Int) (j : Int) a3 M = some (1, am_upd (am_upd M (75 + 2 * t) j (cutW (M 1 t) a3)) 15 0 0) := by
      unfold f_X10_write
      rw [x_wrongPlace hT, bind_s]
      dsimp only
      rw [if_pos g, if_pos g1, tnc, q74, x_put hT (by omega) g4, bind_s, x_agree, bind_s, if_pos (Or.inr rfl)]
    generalize hP : am_upd (am_upd M (75 + 2 * t) j (cutW (M 1 t) a3)) 15 0 0 = P at ex
    have pc : ∀ x, x ≠ 15 → x < 74 ∨ 82 ≤ x → P x = M x := fun x a b => by rw [← hP, am_upd_cell a, am_upd_cell (by omega)]
    have p2 : P 2 = M 2 := pc 2 (by decide) (by omega)
    have p1 : P 1 = M 1 := pc 1 (by decide) (by omega)
    have em : f_X11_write (t : Int) (j : Int) a3 P = some (1, am_upd (am_upd (am_upd P 0 1 0) 0 0 0) 3 (60 * t + j) (cutW (M 1 t) a3)) := by
      unfold f_X11_write
      have e2 : am_upd P 0 1 0 2 = M 2 := by rw [am_upd_cell (by decide)]; exact p2
      rw [zlet_eq, m_placed, bind_s, pl_cong e2, g]
      dsimp only
      rw [zlet_eq, am_upd_self, if_pos (by decide), if_pos g1, m_cutTo, bind_s, tnc, am_upd_cell (show ¬ 1 = 0 by decide), am_upd_cell (show ¬ 1 = 0 by decide), p1]
      dsimp only
      rw [o_mul_eq (by omega) (by omega), o_add_eq (by omega) (by omega), if_pos (by omega), zlet_eq, show ((60 : Int) * (t : Int) + (j : Int)).toNat = 60 * t + j by omega]
    refine ⟨_, P, _, ex, em, RR_tray hR pc ?_ ?_ ?_ (Rt_put hT (t := t) (j := j) (by omega) g4 (cutW (M 1 t) a3) ?_ ?_ ?_ ?_) ?_⟩
    · intro i hi
      rw [← hP, am_upd_ne (fun h => hi h.2), am_upd_cell (by omega)]
    · intro x hx
      rw [am_upd_cell (by omega), am_upd_cell (by omega), am_upd_cell (by omega)]
    · unfold Qf
      rw [am_upd_cell (show ¬ 0 = 3 by decide)]
      refine ⟨?_, ?_, ?_, ?_, ?_, ?_, ?_⟩ <;> rw [am_upd_ne (by omega), am_upd_ne (by omega)]
    · rw [am_upd_cell (by decide), am_upd_cell (by decide), am_upd_cell (by decide)]; exact p1
    · rw [am_upd_cell (by decide), am_upd_cell (by decide), am_upd_cell (by decide)]; exact p2
    · funext i
      have e3 : P 3 = M 3 := pc 3 (by decide) (by omega)
      simp only [am_upd_eq]
      by_cases e : i = 60 * t + j
      · simp [e]
      · simp [e, e3]
    · intro x h1 h2
      rw [am_upd_cell (by omega), am_upd_cell (by omega), am_upd_cell (by omega), ← hP, am_upd_cell (by omega)]
    · rw [am_upd_cell (show ¬ 0 = 3 by decide), am_upd_self, ← hP, am_upd_self]
  · have hnn := pl_nn M a1 a2
    have ex : f_X10_write a1 a2 a3 M = some (0, am_upd M 15 0 (pl M a1 a2)) := by
      unfold f_X10_write
      rw [x_wrongPlace hT, bind_s]
      dsimp only
      rw [if_neg g, x_refuse, bind_s, if_pos (Or.inl rfl)]
    generalize hP : am_upd M 15 0 (pl M a1 a2) = P at ex
    have pc : ∀ x, x ≠ 15 → P x = M x := fun x a => by rw [← hP, am_upd_cell a]
    have em : f_X11_write a1 a2 a3 P = some (0, am_upd (am_upd P 0 1 0) 0 0 (pl M a1 a2)) := by
      unfold f_X11_write
      have e2 : am_upd P 0 1 0 2 = M 2 := by rw [am_upd_cell (by decide)]; exact pc 2 (by decide)
      rw [zlet_eq, m_placed, bind_s, pl_cong e2]
      dsimp only
      rw [zlet_eq, am_upd_self, if_neg (by omega)]
    refine ⟨_, P, _, ex, em, RR_tray hR (fun x a _ => pc x a) ?_ ?_ ?_ (Rt_same (M := M) ?_ ?_ ?_ ?_ hT) ?_⟩
    · intro i hi
      rw [← hP, am_upd_ne (fun h => hi h.2)]
    · intro x hx
      rw [am_upd_cell (by omega), am_upd_cell (by omega)]
    · unfold Qf
      refine ⟨?_, ?_, ?_, ?_, ?_, ?_, ?_⟩ <;> rw [am_upd_ne (by omega), am_upd_ne (by omega)]
    · rw [am_upd_cell (by decide), am_upd_cell (by decide)]; exact pc 1 (by decide)
    · rw [am_upd_cell (by decide), am_upd_cell (by decide)]; exact pc 2 (by decide)
    · rw [am_upd_cell (by decide), am_upd_cell (by decide)]; exact pc 3 (by decide)
    · intro x h1 h2
      rw [am_upd_cell (by omega), am_upd_cell (by omega)]; exact pc x (by omega)
    · rw [am_upd_self, ← hP, am_upd_self]
