/-! MARK and BACK, both sides -/
theorem Rn_mv {c n n2 : Nat → Int} {q q2 : Nat} {M N : AM} (h : ∀ i, i < 24 → N (q2 + 9) i = M (q + 9) i) (hn : ∀ i, i < 24 → n2 i = n i) (h0 : c 0 ≤ 8) (h1 : c 1 ≤ 10) (h2 : c 2 ≤ 6) (hR : Rn c n q M) : Rn c n2 q2 N := by
  unfold Rn at hR ⊢
  obtain ⟨a, b, d, e⟩ := hR
  refine ⟨fun i hi => ?_, fun i hi => ?_, fun i hi => ?_, fun i hi h10 => ?_⟩
  · rw [h i (by omega), hn i (by omega)]; exact a i hi
  · rw [h (8 + i) (by omega), hn (8 + i) (by omega)]; exact b i hi
  · rw [h (18 + i) (by omega), hn (18 + i) (by omega)]; exact d i hi
  · rw [h (8 + i) (by omega)]; exact e i hi h10
theorem Rb_mv {b b2 q q2 y y2 : Nat} {M N : AM} (h5 : blk (N 5) b2 = blk (M 5) b) (hq : Rh (blk (M 5) b) q2 N) (h8 : ∀ i, i < 24 → N 8 (24 * b2 + i) = M 8 (24 * b + i)) (h9 : ∀ i, i < 24 → N (q2 + 9) i = M (q + 9) i)
    (y0 : ∀ j, j < 3 → N y2 j = M y j) (yy : ∀ i j, 1 ≤ i → i ≤ 6 → j < 60 → N (y2 + i) j = M (y + i) j) (hR : Rb b q y M) : Rb b2 q2 y2 N := by
  unfold Rb at hR ⊢
  obtain ⟨a1, a2, a3, a4, a5⟩ := hR
  rw [h5]
  exact ⟨a1, a2, hq, Rn_mv h9 h8 a1.1.2 a1.2.1.2 a1.2.2.1.2 a4, Ry_mv y0 yy a5⟩
/-- the rows that a copy of blocks may touch -/
def ycell (a : Nat) : Prop := a = 0 ∨ a = 5 ∨ a = 8 ∨ a = 15 ∨ (23 ≤ a ∧ a ≤ 33) ∨ (45 ≤ a ∧ a ≤ 52) ∨ 82 ≤ a
theorem RR_blocks {M N : AM} (hR : RR M) (hc : ∀ a, ¬ ycell a → N a = M a) (hx : ∀ j, j ≠ 0 → j ≠ 13 → N 15 j = M 15 j) (hm : ∀ j, j ≠ 0 → j ≠ 1 → j ≠ 24 → N 0 j = M 0 j) (hs : N 0 0 = N 15 0) (hb : Rb 0 23 45 N) (hM : Rm N) : RR N := by
  obtain ⟨r1, r2, r3, r4, r5, r6, r7, r8, ⟨l1, l2, l3⟩⟩ := hR
  refine ⟨hs.symm, ?_, ?_, ?_, ?_, ?_, hb, hM, ?_⟩
  · rw [hx 1 (by decide) (by decide), hx 2 (by decide) (by decide), hm 2 (by decide) (by decide) (by decide), hm 3 (by decide) (by decide) (by decide)]; exact r2
  · rw [hx 4 (by decide) (by decide), hx 5 (by decide) (by decide), hm 10 (by decide) (by decide) (by decide), hm 11 (by decide) (by decide) (by decide)]; exact r3
  · exact Rt_same (hc 1 (by unfold ycell; omega)) (hc 2 (by unfold ycell; omega)) (hc 3 (by unfold ycell; omega)) (fun x a b => hc x (by unfold ycell; omega)) r4
  · unfold Rp at r5 ⊢
    rw [hc 20 (by unfold ycell; omega), hc 21 (by unfold ycell; omega), hc 4 (by unfold ycell; omega), hm 8 (by decide) (by decide) (by decide)]
    exact r5
  · unfold Rk at r6 ⊢
    rw [hc 22 (by unfold ycell; omega)]
    exact r6
  · refine ⟨by rw [hx 19 (by decide) (by decide), hm 34 (by decide) (by decide) (by decide)]; exact l1, by rw [hm 34 (by decide) (by decide) (by decide)]; exact l2, fun i hi => ?_⟩
    rw [hc 19 (by unfold ycell; omega), hc 14 (by unfold ycell; omega)]
    exact l3 i hi
theorem Ry_01 {c : Nat → Int} {q : Nat} {M : AM} (h : Ry c q M) : M q 0 = 0 ∨ M q 0 = 1 := by
  rcases h with h | h
  · exact Or.inl h.2
  · exact Or.inr h.2.1
theorem a_mark : Alike f_X10_mark f_X11_mark := by
  intro M hR
  obtain ⟨n, hn, e1, e2, hbm⟩ := hR.2.2.2.2.2.2.2.1
  have hB := hR.2.2.2.2.2.2.1
  by_cases g : n < 3
  · obtain ⟨b1, b2, b3, b4, b5⟩ := hB
    obtain ⟨N1, c1, c2, c3, c4⟩ := x_copyFrom (q := 82 + 19 * n) (b := 23) (M := M) (by omega) b1 b3
    have h45 : N1 45 = M 45 := c4 45 (by omega)
    obtain ⟨N2, d1, d2, d3, d4⟩ := x_copyYears (q := 93 + 19 * n) (b := 45) (M := N1) (by omega) (by rw [h45]; exact Ry_01 b5)
    have r15 : N2 15 = M 15 := by rw [d4 15 (by omega), c4 15 (by omega)]
    have ex : f_X10_mark M = some ((n : Int) + 1, am_upd (am_upd N2 15 13 ((n : Int) + 1)) 15 0 0) := by
      unfold f_X10_mark
      have n15 : N1 15 13 = (n : Int) := by rw [c4 15 (by omega)]; exact e1
      rw [e1, if_pos (by omega), if_pos (by omega), tnc, show 17 + 65 + 19 * n = 82 + 19 * n from rfl, c1, bind_s, n15, if_pos (by omega), tnc, show 18 + 75 + 19 * n = 93 + 19 * n from rfl, d1, bind_s, zlet_eq, r15, e1, o_add_eq (by omega) (by omega), am_upd_self, x_answer, bind_s]
    generalize hP : am_upd (am_upd N2 15 13 ((n : Int) + 1)) 15 0 0 = P at ex
    have pc : ∀ x, x ≠ 15 → P x = N2 x := fun x h => by rw [← hP, am_upd_cell h, am_upd_cell h]
    have pm : ∀ x, x ≠ 15 → x < 82 → P x = M x := fun x h h2 => by rw [pc x h, d4 x (by omega), c4 x (by omega)]
    obtain ⟨M2, hM2, e5, q2, s2, hc, hf⟩ := MS_ok P
    have p24 : M2 0 24 = (n : Int) := by rw [hf 24 (by decide) (by decide), pm 0 (by decide) (by omega)]; exact e2
    obtain ⟨K, hK⟩ : ∃ K, K = am_upd M2 0 24 ((n : Int) + 1) := ⟨_, rfl⟩
    have k24 : K 0 24 = ((n + 1 : Nat) : Int) := by rw [hK, am_upd_self]; omega
    have kc : ∀ x, x ≠ 0 → K x = P x := fun x h => by rw [hK, am_upd_cell h, hc x h]
    obtain ⟨Q, hQ⟩ : ∃ Q, Q = am_row (am_row K 5 (cp5 (K 5) 0 (n + 1) 355)) 8 (cp8 (K 8) 0 (n + 1) 24) := ⟨_, rfl⟩
    have em : f_X11_mark P = some ((n : Int) + 1, Q) := by
      unfold f_X11_mark
      have hcp := m_copy (K := K) (a := 0) (b := n + 1) (by omega) (by omega) (by omega)
      rw [← hQ] at hcp
      rw [zlet_eq, zlet_eq, hM2, p24, if_pos (by omega), zlet_eq, o_add_eq (by omega) (by omega), ← hK, k24]
      rw [show (0 : Int) = ((0 : Nat) : Int) from rfl, hcp, bind_s]
      have q24 : Q 0 24 = (n : Int) + 1 := by rw [hQ, am_row_ne (by decide), am_row_ne (by decide), k24]; omega
      rw [q24]
    have k5 : K 5 = M 5 := by rw [kc 5 (by decide), pm 5 (by decide) (by omega)]
    have k8 : K 8 = M 8 := by rw [kc 8 (by decide), pm 8 (by decide) (by omega)]
    have q5 : Q 5 = cp5 (M 5) 0 (n + 1) 355 := by rw [hQ, am_row_ne (by decide), am_row_self, k5]
    have q8 : Q 8 = cp8 (M 8) 0 (n + 1) 24 := by rw [hQ, am_row_self, k8]
    have qc : ∀ x, x ≠ 0 → x ≠ 5 → x ≠ 8 → Q x = P x := fun x h0 h5 h8 => by rw [hQ, am_row_ne h8, am_row_ne h5, kc x h0]
    have q0 : Q 0 = K 0 := by rw [hQ, am_row_ne (by decide), am_row_ne (by decide)]
    have qm : ∀ x, x ≠ 0 → x ≠ 5 → x ≠ 8 → x ≠ 15 → x < 82 → Q x = M x := fun x a b d e f => by rw [qc x a b d, pm x e f]
    refine ⟨_, P, Q, ex, em, RR_blocks hR ?_ ?_ ?_ ?_ ?_ ?_⟩
    · intro a ha
      unfold ycell at ha
      exact qm a (by omega) (by omega) (by omega) (by omega) (by omega)
    · intro j h0 h13
      rw [qc 15 (by decide) (by decide) (by decide), ← hP, am_upd_ne (fun h => h0 h.2), am_upd_ne (fun h => h13 h.2), r15]
    · intro j h0 h1 h24
      rw [q0, hK, am_upd_ne (fun h => h24 h.2), hf j h0 h1, pm 0 (by decide) (by omega)]
    · rw [q0, hK, am_upd_ne (by omega), s2, qc 15 (by decide) (by decide) (by decide), ← hP, am_upd_self]
    · refine Rb_cong (M := M) (fun k hk => ?_) (fun i hi => ?_) (fun i hi => qm _ (by omega) (by omega) (by omega) (by omega) (by omega)) (fun i hi => qm _ (by omega) (by omega) (by omega) (by omega) (by omega)) ⟨b1, b2, b3, b4, b5⟩
      · rw [q5]; exact cp5_ne (by omega) hk
      · rw [q8]; exact cp8_ne (by omega) hi
    · refine ⟨n + 1, by omega, ?_, ?_, fun i hi => ?_⟩
      · rw [qc 15 (by decide) (by decide) (by decide), ← hP, am_upd_ne (by omega), am_upd_self]; omega
      · rw [q0, k24]
      · by_cases e : i = n
        · subst e
          have y1 : ∀ a, a < 93 + 19 * i ∨ 93 + 19 * i + 6 < a → a ≠ 15 → 8 < a → Q a = N1 a := fun a h1 h2 h3 => by rw [qc a (by omega) (by omega) (by omega), pc a h2, d4 a h1]
          have y2 : ∀ a, 82 ≤ a → Q a = N2 a := fun a h1 => by rw [qc a (by omega) (by omega) (by omega), pc a (by omega)]
          refine Rb_mv (M := M) (b := 0) (q := 23) (y := 45) (by rw [q5, cp5_blk]) ?_ (fun j hj => by rw [q8]; exact cp8_eq hj) (fun j hj => ?_) (fun j hj => ?_) (fun a j h1 h6 hj => ?_) ⟨b1, b2, b3, b4, b5⟩
          · exact Rh_cong (fun j hj => y1 _ (by omega) (by omega) (by omega)) c2
          · rw [y1 _ (by omega) (by omega) (by omega)]; exact c3 j hj
          · rw [y2 _ (by omega), d2 j hj, h45]
          · rw [y2 _ (by omega), d3 a j h1 h6 hj, c4 (45 + a) (by omega)]
        · have z1 : ∀ a, a < 82 + 19 * n → 8 < a → a ≠ 15 → Q a = M a := fun a h1 h2 h3 => by rw [qc a (by omega) (by omega) (by omega), pc a h3, d4 a (by omega), c4 a (by omega)]
          refine Rb_cong (M := M) (fun k hk => ?_) (fun j hj => ?_) (fun j hj => z1 _ (by omega) (by omega) (by omega)) (fun j hj => z1 _ (by omega) (by omega) (by omega)) (hbm i (by omega))
          · rw [q5]; exact cp5_ne (by omega) hk
          · rw [q8]; exact cp8_ne (by omega) hj
  · refine still hR (-1) 7 ?_ ?_
    · unfold f_X10_mark
      rw [e1, if_neg (by omega), x_fail, bind_s]
    · unfold f_X11_mark
      rw [zlet_eq, zlet_eq, am_upd_ne (by omega), am_upd_ne (by omega), am_upd_cell (by decide), e2, if_neg (by omega), m_refuse, bind_s, am_upd_tw]
theorem a_back : Alike f_X10_back f_X11_back := by
  intro M hR
  obtain ⟨n, hn, e1, e2, hbm⟩ := hR.2.2.2.2.2.2.2.1
  by_cases g : 1 ≤ n
  · obtain ⟨m, rfl⟩ : ∃ m, n = m + 1 := ⟨n - 1, by omega⟩
    have hB := hbm m (by omega)
    obtain ⟨b1, b2, b3, b4, b5⟩ := hB
    obtain ⟨M1, hM1⟩ : ∃ M1, M1 = am_upd M 15 13 (m : Int) := ⟨_, rfl⟩
    have u1 : ∀ x, x ≠ 15 → M1 x = M x := fun x h => by rw [hM1, am_upd_cell h]
    have b3' : Rh (blk (M 5) (m + 1)) (82 + 19 * m) M1 := Rh_cong (fun i hi => u1 _ (by omega)) b3
    obtain ⟨N1, c1, c2, c3, c4⟩ := x_copyFrom (q := 23) (b := 82 + 19 * m) (M := M1) (by omega) b1 b3'
    have h93 : N1 (93 + 19 * m) = M (93 + 19 * m) := by rw [c4 _ (by omega), u1 _ (by omega)]
    obtain ⟨N2, d1, d2, d3, d4⟩ := x_copyYears (q := 45) (b := 93 + 19 * m) (M := N1) (by omega) (by rw [h93]; exact Ry_01 b5)
    have r15 : N2 15 = M1 15 := by rw [d4 15 (by omega), c4 15 (by omega)]
    have n13 : N1 15 13 = (m : Int) := by rw [c4 15 (by omega), hM1, am_upd_self]
    have ex : f_X10_back M = some ((m : Int), am_upd N2 15 0 0) := by
      unfold f_X10_back
      rw [e1, if_pos (by omega), zlet_eq, o_sub_eq (by omega) (by omega), show (((m + 1 : Nat) : Int)) - 1 = (m : Int) by omega, ← hM1]
      have m13 : M1 15 13 = (m : Int) := by rw [hM1, am_upd_self]
      rw [m13, if_pos (by omega), tnc, show 17 + 65 + 19 * m = 82 + 19 * m from rfl, c1, bind_s, n13, if_pos (by omega), tnc, show 18 + 75 + 19 * m = 93 + 19 * m from rfl, d1, bind_s, r15, m13, x_answer, bind_s]
    generalize hP : am_upd N2 15 0 0 = P at ex
    have pc : ∀ x, x ≠ 15 → P x = N2 x := fun x h => by rw [← hP, am_upd_cell h]
    have pm : ∀ x, x ≠ 15 → (x < 23 ∨ 33 < x) → (x < 45 ∨ 51 < x) → P x = M x := fun x h h2 h3 => by rw [pc x h, d4 x (by omega), c4 x (by omega), u1 x h]
    obtain ⟨M2, hM2, e5, q2, s2, hc, hf⟩ := MS_ok P
    have p24 : M2 0 24 = ((m + 1 : Nat) : Int) := by rw [hf 24 (by decide) (by decide), pm 0 (by decide) (by omega) (by omega)]; exact e2
    obtain ⟨K, hK⟩ : ∃ K, K = am_row (am_row M2 5 (cp5 (M2 5) (m + 1) 0 355)) 8 (cp8 (M2 8) (m + 1) 0 24) := ⟨_, rfl⟩
    have k0 : K 0 = M2 0 := by rw [hK, am_row_ne (by decide), am_row_ne (by decide)]
    obtain ⟨Q, hQ⟩ : ∃ Q, Q = am_upd K 0 24 (m : Int) := ⟨_, rfl⟩
    have em : f_X11_back P = some ((m : Int), Q) := by
      unfold f_X11_back
      have hcp := m_copy (K := M2) (a := m + 1) (b := 0) (by omega) (by omega) (by omega)
      rw [← hK] at hcp
      rw [zlet_eq, zlet_eq, hM2, p24, if_pos (by omega), show f_X11_copy (((m + 1 : Nat) : Int)) 0 M2 = some K from hcp, bind_s, zlet_eq, k0, p24, o_sub_eq (by omega) (by omega), show (((m + 1 : Nat) : Int)) - 1 = (m : Int) by omega, ← hQ]
      have q24 : Q 0 24 = (m : Int) := by rw [hQ, am_upd_self]
      rw [q24]
    have k5 : M2 5 = M 5 := by rw [hc 5 (by decide), pm 5 (by decide) (by omega) (by omega)]
    have k8 : M2 8 = M 8 := by rw [hc 8 (by decide), pm 8 (by decide) (by omega) (by omega)]
    have q5 : Q 5 = cp5 (M 5) (m + 1) 0 355 := by rw [hQ, am_upd_cell (by decide), hK, am_row_ne (by decide), am_row_self, k5]
    have q8 : Q 8 = cp8 (M 8) (m + 1) 0 24 := by rw [hQ, am_upd_cell (by decide), hK, am_row_self, k8]
    have qc : ∀ x, x ≠ 0 → x ≠ 5 → x ≠ 8 → Q x = P x := fun x h0 h5 h8 => by rw [hQ, am_upd_cell h0, hK, am_row_ne h8, am_row_ne h5, hc x h0]
    have qm : ∀ x, x ≠ 0 → x ≠ 5 → x ≠ 8 → x ≠ 15 → (x < 23 ∨ 33 < x) → (x < 45 ∨ 51 < x) → Q x = M x := fun x a b d e f h => by rw [qc x a b d, pm x e f h]
    refine ⟨_, P, Q, ex, em, RR_blocks hR ?_ ?_ ?_ ?_ ?_ ?_⟩
    · intro a ha
      unfold ycell at ha
      exact qm a (by omega) (by omega) (by omega) (by omega) (by omega) (by omega)
    · intro j h0 h13
      rw [qc 15 (by decide) (by decide) (by decide), ← hP, am_upd_ne (fun h => h0 h.2), r15, hM1, am_upd_ne (fun h => h13 h.2)]
    · intro j h0 h1 h24
      rw [hQ, am_upd_ne (fun h => h24 h.2), k0, hf j h0 h1, pm 0 (by decide) (by omega) (by omega)]
    · rw [hQ, am_upd_ne (by omega), k0, s2, am_upd_cell (by decide), hK, am_row_ne (by decide), am_row_ne (by decide), hc 15 (by decide), ← hP, am_upd_self]
    · have y1 : ∀ a, 23 ≤ a → a ≤ 33 → Q a = N1 a := fun a h1 h2 => by rw [qc a (by omega) (by omega) (by omega), pc a (by omega), d4 a (by omega)]
      have y2 : ∀ a, 45 ≤ a → a ≤ 51 → Q a = N2 a := fun a h1 h2 => by rw [qc a (by omega) (by omega) (by omega), pc a (by omega)]
      refine Rb_mv (M := M) (b := m + 1) (q := 82 + 19 * m) (y := 93 + 19 * m) (by rw [q5, cp5_blk]) ?_ (fun j hj => by rw [q8]; exact cp8_eq hj) (fun j hj => ?_) (fun j hj => ?_) (fun a j h1 h6 hj => ?_) ⟨b1, b2, b3, b4, b5⟩
      · exact Rh_cong (fun j hj => y1 _ (by omega) (by omega)) c2
      · rw [y1 _ (by omega) (by omega), c3 j hj, u1 _ (by omega)]
      · rw [y2 _ (by omega) (by omega), d2 j hj, h93]
      · rw [y2 _ (by omega) (by omega), d3 a j h1 h6 hj, c4 _ (by omega), u1 _ (by omega)]
    · refine ⟨m, by omega, ?_, ?_, fun i hi => ?_⟩
      · rw [qc 15 (by decide) (by decide) (by decide), ← hP, am_upd_ne (by omega), r15, hM1, am_upd_self]
      · rw [hQ, am_upd_self]
      · refine Rb_cong (M := M) (fun k hk => ?_) (fun j hj => ?_) (fun j hj => qm _ (by omega) (by omega) (by omega) (by omega) (by omega) (by omega)) (fun j hj => qm _ (by omega) (by omega) (by omega) (by omega) (by omega) (by omega)) (hbm i (by omega))
        · rw [q5]; exact cp5_ne (by omega) hk
        · rw [q8]; exact cp8_ne (by omega) hj
  · refine still hR (-1) 8 ?_ ?_
    · unfold f_X10_back
      rw [e1, if_neg (by omega), x_fail, bind_s]
    · unfold f_X11_back
      rw [zlet_eq, zlet_eq, am_upd_ne (by omega), am_upd_ne (by omega), am_upd_cell (by decide), e2, if_neg (by omega), m_refuse, bind_s, am_upd_tw]
