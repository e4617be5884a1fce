/-! HOUSE: the call -/
/-- both begin to read -/
theorem start_both {M B : AM} {n : Nat} {most : Int} (hp : Rp M) (hk : Rk M) (hn : (n : Int) ≤ M 20 7) (hm : (n : Int) ≤ most) (h4 : B 4 = M 4) (h8 : B 0 8 = M 0 8) :
    ∃ A1 B1, f_X5_start (n : Int) M = some A1 ∧ f_X11_starts (n : Int) most B = some (1, B1) ∧ TK n A1 B1 ∧ FO A1 B1 ∧ (∀ x, x ≠ 20 → A1 x = M x) ∧ (∀ x, x ≠ 0 → B1 x = B x) ∧ (∀ j, j < 8 ∨ 19 < j ∨ j = 10 ∨ j = 11 → B1 0 j = B 0 j) ∧ B1 0 8 = 0 ∧ (A1 20 0 = 0 ∨ 0 < A1 20 11) := by
  obtain ⟨p1, p2, p3, p4⟩ := hp
  unfold f_X5_start f_X11_starts
  rw [zlet_eq, zlet_eq, zlet_eq, zlet_eq, o_max_eq, o_min_eq, if_neg (by omega), if_neg (by rw [h8]; omega), if_pos hm, zlet_eq, zlet_eq, zlet_eq, zlet_eq]
  rw [show max (0 : Int) (min (n : Int) (M 20 7)) = (n : Int) by omega]
  generalize hA : am_upd (am_upd (am_upd (am_upd M 20 10 (n : Int)) 20 11 0) 20 5 0) 20 6 (-1) = A
  generalize hC : am_upd (am_upd (am_upd (am_upd B 0 9 (n : Int)) 0 8 0) 0 16 0) 0 12 0 = C
  have a10 : A 20 10 = (n : Int) := by rw [← hA]; simp [am_upd_eq]
  have a11 : A 20 11 = 0 := by rw [← hA]; simp [am_upd_eq]
  have a5 : A 20 5 = 0 := by rw [← hA]; simp [am_upd_eq]
  have a6 : A 20 6 = -1 := by rw [← hA]; simp [am_upd_eq]
  have ac : ∀ x, x ≠ 20 → A x = M x := fun x h => by rw [← hA, am_upd_cell h, am_upd_cell h, am_upd_cell h, am_upd_cell h]
  have c9 : C 0 9 = (n : Int) := by rw [← hC]; simp [am_upd_eq]
  have c8 : C 0 8 = 0 := by rw [← hC]; simp [am_upd_eq]
  have c16 : C 0 16 = 0 := by rw [← hC]; simp [am_upd_eq]
  have c12 : C 0 12 = 0 := by rw [← hC]; simp [am_upd_eq]
  have cc : ∀ x, x ≠ 0 → C x = B x := fun x h => by rw [← hC, am_upd_cell h, am_upd_cell h, am_upd_cell h, am_upd_cell h]
  have cj : ∀ j, j < 8 ∨ 19 < j ∨ j = 10 ∨ j = 11 → C 0 j = B 0 j := fun j h => by rw [← hC, am_upd_ne (by omega), am_upd_ne (by omega), am_upd_ne (by omega), am_upd_ne (by omega)]
  have hT : TX n A C := by
    refine ⟨by omega, a10, c9, fun k hk2 => ?_, ?_⟩
    · rw [ac 21 (by decide), cc 4 (by decide), h4]; exact p4 k (by omega)
    · unfold Rk at hk ⊢
      rw [ac 22 (by decide)]; exact hk
  obtain ⟨A', B', e1, e2, g1, g2, g3, g4⟩ := adv_both hT (by rw [a11, c16]) (by omega) (by omega)
  rw [e1, e2, bind_s, bind_s]
  refine ⟨A', B', rfl, rfl, g3, ⟨?_, ?_, ?_⟩, fun x h => ?_, fun x h => ?_, fun j h => ?_, ?_, ?_⟩
  · rw [g1.2 5 (by decide)]; exact a5
  · rw [g1.2 6 (by decide)]; exact a6
  · rw [g2.2 12 (by decide)]; exact c12
  · rw [g1.1 x h]; exact ac x h
  · rw [g2.1 x h]; exact cc x h
  · rw [g2.2 j (by omega)]; exact cj j h
  · rw [g2.2 8 (by decide)]; exact c8
  · have := g4.2
    rw [a11] at this
    exact this
theorem x_clear (A : AM) : ∃ A', f_X1_clear 34 A = some A' ∧ (∀ x, x ≠ 34 → x ≠ 43 → A' x = A x) ∧ A' 34 2 = 0 ∧ A' 34 3 = 0 ∧ A' 34 4 = 0 ∧ A' 34 5 = 0 ∧ A' 34 6 = 0 ∧ A' 34 7 = 0 ∧ A' 34 8 = 0 ∧ A' 34 19 = 0 ∧ ∀ i, i < 24 → A' 43 i = 0 := by
  unfold f_X1_clear
  simp only [zlet_eq]
  rw [J7_fillL _ _ (by decide), bind_s]
  refine ⟨_, rfl, fun x h h2 => ?_, ?_, ?_, ?_, ?_, ?_, ?_, ?_, ?_, fun i hi => ?_⟩
  · rw [am_row_ne h2]
    simp only [am_upd_cell h]
  · rw [am_row_ne (by decide)]; simp [am_upd_eq]
  · rw [am_row_ne (by decide)]; simp [am_upd_eq]
  · rw [am_row_ne (by decide)]; simp [am_upd_eq]
  · rw [am_row_ne (by decide)]; simp [am_upd_eq]
  · rw [am_row_ne (by decide)]; simp [am_upd_eq]
  · rw [am_row_ne (by decide)]; simp [am_upd_eq]
  · rw [am_row_ne (by decide)]; simp [am_upd_eq]
  · rw [am_row_ne (by decide)]; simp [am_upd_eq]
  · rw [am_row_self, if_pos hi]
theorem x_keepFault (A : AM) : f_X10_keepFault A = some (am_upd (am_upd (am_upd A 20 7 0) 15 4 (A 20 5)) 15 5 (A 20 6)) := by
  unfold f_X10_keepFault
  rw [zlet_eq, zlet_eq, zlet_eq, am_upd_ne (show ¬ (20 = 20 ∧ 5 = 7) by decide), am_upd_cell (show 20 ≠ 15 by decide), am_upd_ne (show ¬ (20 = 20 ∧ 6 = 7) by decide)]
theorem m_isWell_t {B : AM} (h : B 0 12 = 0) : f_X11_isWell B = some (1, am_upd (am_upd B 0 10 0) 0 11 (-1)) := by
  unfold f_X11_isWell f_X11_isWell_24
  rw [zlet_eq, am_upd_ne (show ¬ (0 = 0 ∧ 12 = 10) by decide), h, if_neg (by decide), zlet_eq, am_upd_ne (show ¬ (0 = 0 ∧ 12 = 11) by decide), am_upd_ne (show ¬ (0 = 0 ∧ 12 = 10) by decide), h, if_pos rfl]
theorem m_isWell_f {B : AM} (h : 0 < B 0 12) : f_X11_isWell B = some (0, am_upd (am_upd (am_upd B 0 10 (B 0 12)) 0 11 (B 0 13)) 0 0 10) := by
  unfold f_X11_isWell f_X11_isWell_24
  rw [zlet_eq, am_upd_ne (show ¬ (0 = 0 ∧ 12 = 10) by decide), if_pos (by omega), zlet_eq, am_upd_ne (show ¬ (0 = 0 ∧ 12 = 11) by decide), am_upd_ne (show ¬ (0 = 0 ∧ 12 = 10) by decide), if_neg (by omega), am_upd_ne (show ¬ (0 = 0 ∧ 13 = 10) by decide), m_no, bind_s]
  dsimp only
  rw [if_pos rfl]
theorem x_forget (q : Nat) (A : AM) : f_X8_forget q A = some (am_upd (am_upd (am_upd (am_upd A q 0 0) q 1 0) q 2 0) q 10 0) := by
  unfold f_X8_forget
  rw [zlet_eq, zlet_eq, zlet_eq, zlet_eq]
theorem house_both {M B : AM} {n : Nat} (hR : RR M) (hn : (n : Int) ≤ M 20 7) (hB : ∀ x, 1 ≤ x → x ≤ 14 → B x = M x) (hB0 : ∀ j, 2 ≤ j → B 0 j = M 0 j) :
    ∃ v N P, f_X10_house (n : Int) M = some (v, N) ∧ ((f_X11_starts (n : Int) 900 B).bind fun x3 => if ¬ x3.1 = 0 then ((f_X11_empties 4 x3.2).bind fun x4 => zlet (am_upd x4 0 25 0) fun M5 => f_X11_house_33 zB M5) else some ((-1), x3.2)) = some (v, P) ∧ (∀ x, x ≤ 14 → N x = M x) ∧ (B 0 0 = 0 → (∀ x, 15 ≤ x → B x = N x) → RR P) := by
  have hp := hR.2.2.2.2.1
  have h900 := hp.2.2.1
  have h207 := hp.1
  have hRb := hR.2.2.2.2.2.2.1
  obtain ⟨A1, B1, s1, s2, s3, s4, s5, s6, s7, s8, s9⟩ := start_both (most := 900) hp hR.2.2.2.2.2.1 hn (by omega) (hB 4 (by decide) (by decide)) (hB0 8 (by decide))
  obtain ⟨A2, e2, c2, k2, k3, k4, k5, k6, k7, k8, k19, k43⟩ := x_clear A1
  have eE : f_X11_empties 4 B1 = some (am_upd (am_upd (am_row B1 5 (fun k => if 355 * 4 ≤ k ∧ k < 355 * 4 + 355 then 0 else B1 5 k)) 5 (355 * 4 + 3) 8) 5 (355 * 4 + 4) 2) := m_empties (b := 4) (by decide)
  generalize hB2 : am_upd (am_upd (am_row B1 5 (fun k => if 355 * 4 ≤ k ∧ k < 355 * 4 + 355 then 0 else B1 5 k)) 5 (355 * 4 + 3) 8) 5 (355 * 4 + 4) 2 = B2 at eE
  have b2 : ∀ x, x ≠ 5 → B2 x = B1 x := fun x h => by rw [← hB2, am_upd_cell h, am_upd_cell h, am_row_ne h]
  have b5 : ∀ k, k < 1420 → B2 5 k = B1 5 k := fun k h => by rw [← hB2, am_upd_ne (by omega), am_upd_ne (by omega), am_row_self, if_neg (by omega)]
  have b50 : ∀ k, k < 355 → k ≠ 3 → k ≠ 4 → B2 5 (1420 + k) = 0 := fun k h h3 h4 => by rw [← hB2, am_upd_ne (by omega), am_upd_ne (by omega), am_row_self, if_pos (by omega)]
  have b53 : B2 5 1423 = 8 := by rw [← hB2, am_upd_ne (by omega), am_upd_self]
  have b54 : B2 5 1424 = 2 := by rw [← hB2, am_upd_self]
  generalize hA3 : am_upd (am_upd A2 34 0 (-1)) 34 1 (-1) = A3
  have a3c : ∀ x, x ≠ 34 → A3 x = A2 x := fun x h => by rw [← hA3, am_upd_cell h, am_upd_cell h]
  have a3j : ∀ j, 2 ≤ j → A3 34 j = A2 34 j := fun j h => by rw [← hA3, am_upd_ne (by omega), am_upd_ne (by omega)]
  have a30 : A3 34 0 = -1 := by rw [← hA3, am_upd_ne (by omega), am_upd_self]
  have a31 : A3 34 1 = -1 := by rw [← hA3, am_upd_self]
  generalize hB3 : am_upd B2 0 25 0 = B3
  have b3c : ∀ x, x ≠ 0 → B3 x = B2 x := fun x h => by rw [← hB3, am_upd_cell h]
  have b3j : ∀ j, j ≠ 25 → B3 0 j = B1 0 j := fun j h => by rw [← hB3, am_upd_ne (fun h2 => h h2.2), b2 0 (by decide)]
  have b325 : B3 0 25 = 0 := by rw [← hB3, am_upd_self]
  have t3 : TK n A3 B3 := TK_cong s3 (by rw [a3c 20 (by decide), c2 20 (by decide) (by decide)]) (by rw [a3c 21 (by decide), c2 21 (by decide) (by decide)]) (by rw [a3c 22 (by decide), c2 22 (by decide) (by decide)]) (by rw [b3c 4 (by decide), b2 4 (by decide)]) (fun j hj => b3j j (by omega))
  have f3 : FO A3 B3 := FO_cong s4 (by rw [a3c 20 (by decide), c2 20 (by decide) (by decide)]) (b3j 12 (by decide))
  have h3 : HP A3 B3 := by
    have z : ∀ k, k < 355 → k ≠ 3 → k ≠ 4 → B3 5 (1420 + k) = 0 := fun k h h3 h4 => by rw [b3c 5 (by decide)]; exact b50 k h h3 h4
    have z0 : B3 5 (1420 + 0) = 0 := z 0 (by decide) (by decide) (by decide)
    have z1 : B3 5 (1420 + 1) = 0 := z 1 (by decide) (by decide) (by decide)
    have z2 : B3 5 (1420 + 2) = 0 := z 2 (by decide) (by decide) (by decide)
    have z3 : B3 5 (1420 + 3) = 8 := by rw [b3c 5 (by decide)]; exact b53
    have z4 : B3 5 (1420 + 4) = 2 := by rw [b3c 5 (by decide)]; exact b54
    unfold HP HQ
    dsimp only
    rw [z0, z1, z2, z3, z4, z 5 (by decide) (by decide) (by decide), z 6 (by decide) (by decide) (by decide), z 83 (by decide) (by decide) (by decide), a3j 2 (by decide), a3j 3 (by decide), a3j 4 (by decide), a3j 5 (by decide), a3j 6 (by decide), a3j 7 (by decide), a3j 8 (by decide), a3j 19 (by decide), a30, a31, k2, k3, k4, k5, k6, k7, k8, k19, b325]
    refine ⟨⟨⟨rfl, by decide, by decide⟩, ⟨rfl, by decide, by decide⟩, ⟨rfl, by decide, by decide⟩⟩, ⟨rfl, rfl, rfl, rfl, rfl, rfl⟩, ⟨Or.inl ⟨rfl, rfl⟩, Or.inl ⟨rfl, rfl⟩, rfl⟩, fun w h => by omega, fun k h => by omega, fun k h => ⟨z (71 + k) (by omega) (by omega) (by omega), z (77 + k) (by omega) (by omega) (by omega)⟩, ⟨rfl, rfl⟩, fun i hi => ⟨fun h => ?_, fun _ => ?_⟩⟩
    · unfold usedN at h
      dsimp only at h
      rw [z0, z1, z2] at h
      omega
    · rw [a3c 43 (by decide)]; exact k43 i hi
  have eM : ((f_X11_starts (n : Int) 900 B).bind fun x3 => if ¬ x3.1 = 0 then ((f_X11_empties 4 x3.2).bind fun x4 => zlet (am_upd x4 0 25 0) fun M5 => f_X11_house_33 zB M5) else some ((-1), x3.2)) = f_X11_house_33 zB B3 := by
    rw [s2, bind_s]
    dsimp only
    rw [if_pos (by decide), eE, bind_s, zlet_eq, hB3]
  have eX : f_X2_readHouse (n : Int) M = f_X2_readHouse_21 zB (n : Int) ((0 : Nat) : Int) A3 := by
    unfold f_X2_readHouse
    rw [s1, bind_s, e2, bind_s, zlet_eq, zlet_eq, hA3]
    rfl
  -- frames from the beginning
  have xM : ∀ x, x ≠ 20 → x ≠ 34 → x ≠ 43 → A3 x = M x := fun x h1 h2 h3 => by rw [a3c x h2, c2 x h2 h3]; exact s5 x h1
  have yB : ∀ x, x ≠ 0 → x ≠ 5 → B3 x = B x := fun x h1 h2 => by rw [b3c x h1, b2 x h2]; exact s6 x h1
  have yB5 : ∀ k, k < 1420 → B3 5 k = B 5 k := fun k h => by rw [b3c 5 (by decide), b5 k h, s6 5 (by decide)]
  have yB0 : ∀ j, j < 8 ∨ 19 < j → j ≠ 25 → B3 0 j = B 0 j := fun j h h25 => by rw [b3j j h25]; exact s7 j (by omega)
  have b308 : B3 0 8 = 0 := by rw [b3j 8 (by decide)]; exact s8
  have hp3 : A3 20 0 = 0 ∨ ((0 : Nat) : Int) < A3 20 11 := by rw [a3c 20 (by decide), c2 20 (by decide) (by decide)]; exact s9
  rw [eM]
  unfold f_X10_house
  rw [if_neg (by omega), if_pos hn, eX]
  rcases house_loop (L := n) n 0 A3 B3 (by omega) t3 f3 h3 hp3 with ⟨A4, B4, g1, g2, g3, g4, g5, g6⟩ | ⟨A4, B4, g1, g2, g3, g4, g5⟩
  · rw [g1 zB (by unfold zB; omega), g2 zB (by unfold zB; omega), x_read49 g3, bind_s]
    dsimp only
    generalize hA5 : am_upd (am_upd A4 34 0 (B4 5 (1420 + 3))) 34 1 (B4 5 (1420 + 4)) = A5
    have a5c : ∀ x, x ≠ 34 → A5 x = A4 x := fun x h => by rw [← hA5, am_upd_cell h, am_upd_cell h]
    obtain ⟨i1, i2, i3, i4⟩ := HQ_fin (N := A5) g3 (fun x h1 h2 => a5c x (by omega)) (fun j h => by rw [← hA5, am_upd_ne (by omega), am_upd_ne (by omega)]) (by rw [← hA5, am_upd_ne (by omega), am_upd_self]) (by rw [← hA5, am_upd_self])
    rw [x_keepFault, bind_s, if_pos (by decide), a5c 20 (by decide), g4.1, g4.2.1]
    generalize hA6 : am_upd (am_upd (am_upd A5 20 7 0) 15 4 0) 15 5 (-1) = A6
    have a6c : ∀ x, x ≠ 20 → x ≠ 15 → A6 x = A5 x := fun x h h2 => by rw [← hA6, am_upd_cell h2, am_upd_cell h2, am_upd_cell h]
    obtain ⟨N1, n1, n2, n3, n4⟩ := x_copyFrom (q := 23) (b := 34) (M := A6) (by omega) i1 (Rh_cong (fun i hi => a6c _ (by omega) (by omega)) i3)
    rw [n1, bind_s, x_forget, bind_s]
    have n23 : N1 23 4 = B4 5 1422 := (Rh_iff.mp n2).1.1.2.2.2.2.1
    generalize hN2 : am_upd (am_upd (am_upd (am_upd N1 45 0 0) 45 1 0) 45 2 0) 45 10 0 = N2
    have n2c : ∀ x, x ≠ 45 → N2 x = N1 x := fun x h => by rw [← hN2, am_upd_cell h, am_upd_cell h, am_upd_cell h, am_upd_cell h]
    have n450 : N2 45 0 = 0 := by rw [← hN2]; simp [am_upd_eq]
    rw [n2c 23 (by decide), n23, x_answer, bind_s]
    unfold f_X11_house_64
    rw [m_isWell_t g4.2.2, bind_s]
    dsimp only
    rw [if_pos (by decide)]
    generalize hB5 : am_upd (am_upd B4 0 10 0) 0 11 (-1) = B5
    have b5c : ∀ x, x ≠ 0 → B5 x = B4 x := fun x h => by rw [← hB5, am_upd_cell h, am_upd_cell h]
    have b5j : ∀ j, j ≠ 10 → j ≠ 11 → B5 0 j = B4 0 j := fun j h h2 => by rw [← hB5, am_upd_ne (by omega), am_upd_ne (by omega)]
    have eC : f_X11_copy 4 0 B5 = some (am_row (am_row B5 5 (cp5 (B5 5) 4 0 355)) 8 (cp8 (B5 8) 4 0 24)) := m_copy (a := 4) (b := 0) (by decide) (by decide) (by decide)
    rw [eC, bind_s]
    generalize hP : am_row (am_row B5 5 (cp5 (B5 5) 4 0 355)) 8 (cp8 (B5 8) 4 0 24) = P
    have p5 : P 5 = cp5 (B4 5) 4 0 355 := by rw [← hP, am_row_ne (by decide), am_row_self, b5c 5 (by decide)]
    have p8 : P 8 = cp8 (B4 8) 4 0 24 := by rw [← hP, am_row_self, b5c 8 (by decide)]
    have pc : ∀ x, x ≠ 5 → x ≠ 8 → P x = B5 x := fun x h h2 => by rw [← hP, am_row_ne h2, am_row_ne h]
    have hv : P 5 (Int.toNat 2) = B4 5 1422 := by rw [p5]; rfl
    rw [hv]
    have fx : ∀ x, x ≠ 15 → x ≠ 20 → (x < 23 ∨ 44 < x) → x ≠ 45 → (x < 53 ∨ 60 < x) → am_upd N2 15 0 0 x = M x := fun x h15 h20 h h45 h53 => by
      rw [am_upd_cell h15, n2c x h45, n4 x (by omega), a6c x h20 h15, a5c x (by omega), g5.1 x h20 (by omega) h53, xM x h20 (by omega) (by omega)]
    refine ⟨_, _, P, rfl, rfl, fun x hx => fx x (by omega) (by omega) (by omega) (by omega) (by omega), fun hb0 hlink => ?_⟩
    have pB : ∀ x, x ≠ 0 → x ≠ 5 → x ≠ 8 → P x = B x := fun x h0 h5 h8 => by rw [pc x h5 h8, b5c x h0, g6.1 x h0 h5 h8, yB x h0 h5]
    have pN : ∀ x, 15 ≤ x → P x = am_upd N2 15 0 0 x := fun x h => by rw [pB x (by omega) (by omega) (by omega), hlink x h]
    have n15 : ∀ j, j ≠ 0 → j ≠ 4 → j ≠ 5 → am_upd N2 15 0 0 15 j = M 15 j := fun j h0 h4 h5 => by
      rw [am_upd_ne (fun h => h0 h.2), n2c 15 (by decide), n4 15 (by omega), ← hA6, am_upd_ne (fun h => h5 h.2), am_upd_ne (fun h => h4 h.2), am_upd_cell (by decide), a5c 15 (by decide), g5.1 15 (by decide) (by decide) (by decide), xM 15 (by decide) (by decide) (by decide)]
    have p0 : ∀ j, j < 8 ∨ 19 < j → j ≠ 25 → j ≠ 26 → P 0 j = B 0 j := fun j h h25 h26 => by
      rw [pc 0 (by decide) (by decide), b5j j (by omega) (by omega), g6.2.1 j (by omega) h25 h26, yB0 j h h25]
    have hblk : blk (P 5) 0 = blk (B4 5) 4 := by rw [p5]; exact cp5_blk
    have hbk : ∀ k, k < 355 → blk (B4 5) 4 k = B4 5 (1420 + k) := fun k h => blk_at h
    refine RR_text hR (fun x hx => ?_) (fun k h1 h2 => ?_) (fun i h1 h2 => ?_) (fun j h0 h4 h5 => ?_) ⟨?_, ?_, ?_, ?_⟩ ⟨?_, ?_⟩ ⟨?_, ?_⟩ ?_ ?_
    · rcases (by omega : x ≤ 14 ∨ 15 ≤ x) with h | h
      · rw [pB x (by omega) (by omega) (by omega), hB x (by omega) h]
      · rw [pN x h]; exact fx x (by omega) (by omega) (by omega) (by omega) (by omega)
    · rw [p5]
      unfold cp5
      rw [if_neg (by omega), g6.2.2.1 k h2, yB5 k h2, hB 5 (by decide) (by decide)]
    · rw [p8]
      unfold cp8
      rw [if_neg (by omega), g6.2.2.2 i h2, yB 8 (by decide) (by decide), hB 8 (by decide) (by decide)]
    · rw [pN 15 (by decide)]; exact n15 j h0 h4 h5
    · rw [p0 2 (by decide) (by decide) (by decide), hB0 2 (by decide)]
    · rw [p0 3 (by decide) (by decide) (by decide), hB0 3 (by decide)]
    · rw [p0 24 (by decide) (by decide) (by decide), hB0 24 (by decide)]
    · rw [p0 34 (by decide) (by decide) (by decide), hB0 34 (by decide)]
    · rw [pN 15 (by decide), am_upd_ne (by omega), n2c 15 (by decide), n4 15 (by omega), ← hA6, am_upd_ne (by omega), am_upd_self, pc 0 (by decide) (by decide), ← hB5, am_upd_ne (by omega), am_upd_self]
    · rw [pN 15 (by decide), am_upd_ne (by omega), n2c 15 (by decide), n4 15 (by omega), ← hA6, am_upd_self, pc 0 (by decide) (by decide), ← hB5, am_upd_self]
    · rw [pN 20 (by decide), am_upd_cell (by decide), n2c 20 (by decide), n4 20 (by omega), ← hA6, am_upd_cell (by decide), am_upd_cell (by decide), am_upd_self]
    · rw [pc 0 (by decide) (by decide), b5j 8 (by decide) (by decide), g6.2.1 8 (by decide) (by decide) (by decide)]; exact b308
    · have hcc : ∀ k, k < 83 → blk (B4 5) 4 k = B4 5 (1420 + k) := fun k h => hbk k (by omega)
      unfold Rb
      rw [hblk]
      refine ⟨Ic_congr hcc i1, by rw [hbk 5 (by decide)]; exact i2, Rh_congr hcc i1.2.1.2 i1.2.2.1.2 (Rh_cong (fun i hi => ?_) n2), ?_, Or.inl ⟨by rw [hbk 83 (by decide)]; exact i4, ?_⟩⟩
      · rw [pN _ (by omega), am_upd_cell (by omega), n2c _ (by omega)]
      · have w8 : ∀ i, i < 24 → P 8 (24 * 0 + i) = B4 8 (96 + i) := fun i h => by rw [p8]; exact cp8_eq h
        have w32 : ∀ i, i < 24 → P 32 i = A4 43 i := fun i h => by
          rw [pN 32 (by decide), am_upd_cell (by decide), n2c 32 (by decide)]
          rw [show N1 32 i = A6 43 i from n3 i h, a6c 43 (by decide) (by decide), a5c 43 (by decide)]
        have h0' := HP_0 g3
        have h1' := HP_1 g3
        have h2' := HP_2 g3
        unfold Rn
        rw [hbk 0 (by decide), hbk 1 (by decide), hbk 2 (by decide)]
        refine ⟨fun i hi => ?_, fun i hi => ?_, fun i hi => ?_, fun i hi hi2 => ?_⟩
        · replace hi : (i : Int) < B4 5 1420 := hi
          show P 32 i = P 8 (24 * 0 + i)
          rw [w32 i (by omega), w8 i (by omega)]
          exact (HP_n g3 (by omega)).1 (Or.inl ⟨by omega, hi⟩)
        · replace hi : (i : Int) < B4 5 1421 := hi
          show P 32 (8 + i) = P 8 (24 * 0 + (8 + i))
          rw [w32 (8 + i) (by omega), w8 (8 + i) (by omega)]
          exact (HP_n g3 (by omega)).1 (Or.inr (Or.inl ⟨by omega, by omega, by show ((8 + i : Nat) : Int) < 8 + B4 5 1421; omega⟩))
        · replace hi : (i : Int) < B4 5 1422 := hi
          show P 32 (18 + i) = P 8 (24 * 0 + (18 + i))
          rw [w32 (18 + i) (by omega), w8 (18 + i) (by omega)]
          exact (HP_n g3 (by omega)).1 (Or.inr (Or.inr ⟨by omega, by omega, by show ((18 + i : Nat) : Int) < 18 + B4 5 1422; omega⟩))
        · replace hi : B4 5 1421 ≤ (i : Int) := hi
          show P 32 (8 + i) = 0
          rw [w32 (8 + i) (by omega)]
          refine (HP_n g3 (by omega)).2 (fun h => ?_)
          unfold usedN at h
          dsimp only at h
          rw [show 1420 + 1 = 1421 from rfl] at h
          omega
      · rw [pN 45 (by decide), am_upd_cell (by decide)]; exact n450
    · rw [pN 15 (by decide), am_upd_self, p0 0 (by decide) (by decide) (by decide), hb0]
  · rw [g1 zB (by unfold zB; omega), g2 zB (by unfold zB; omega), bind_s]
    dsimp only
    rw [x_keepFault, bind_s, if_neg (show ¬ ¬ (0 : Int) = 0 by decide), x_fail, bind_s]
    unfold f_X11_house_64
    rw [m_isWell_f g3.1, bind_s]
    dsimp only
    rw [if_neg (show ¬ ¬ (0 : Int) = 0 by decide)]
    generalize hN : am_upd (am_upd (am_upd (am_upd A4 20 7 0) 15 4 (A4 20 5)) 15 5 (A4 20 6)) 15 0 10 = N
    generalize hP : am_upd (am_upd (am_upd B4 0 10 (B4 0 12)) 0 11 (B4 0 13)) 0 0 10 = P
    have nc : ∀ x, x ≠ 15 → x ≠ 20 → (x < 34 ∨ 44 < x) → (x < 53 ∨ 60 < x) → N x = M x := fun x h15 h20 h h53 => by
      rw [← hN, am_upd_cell h15, am_upd_cell h15, am_upd_cell h15, am_upd_cell h20, g4.1 x h20 h h53, xM x h20 (by omega) (by omega)]
    have n15 : ∀ j, j ≠ 0 → j ≠ 4 → j ≠ 5 → N 15 j = M 15 j := fun j h0 h4 h5 => by
      rw [← hN, am_upd_ne (fun h => h0 h.2), am_upd_ne (fun h => h5 h.2), am_upd_ne (fun h => h4 h.2), am_upd_cell (by decide), g4.1 15 (by decide) (by decide) (by decide), xM 15 (by decide) (by decide) (by decide)]
    have pc : ∀ x, x ≠ 0 → P x = B4 x := fun x h => by rw [← hP, am_upd_cell h, am_upd_cell h, am_upd_cell h]
    refine ⟨_, N, P, rfl, rfl, fun x hx => nc x (by omega) (by omega) (by omega) (by omega), fun hb0 hlink => ?_⟩
    have pB : ∀ x, x ≠ 0 → x ≠ 5 → x ≠ 8 → P x = B x := fun x h0 h5 h8 => by rw [pc x h0, g5.1 x h0 h5 h8, yB x h0 h5]
    have pN : ∀ x, 15 ≤ x → P x = N x := fun x h => by rw [pB x (by omega) (by omega) (by omega), hlink x h]
    have p5 : ∀ k, k < 1420 → P 5 k = M 5 k := fun k h => by rw [pc 5 (by decide), g5.2.2.1 k h, yB5 k h, hB 5 (by decide) (by decide)]
    have p8 : ∀ i, i < 96 → P 8 i = M 8 i := fun i h => by rw [pc 8 (by decide), g5.2.2.2 i h, yB 8 (by decide) (by decide), hB 8 (by decide) (by decide)]
    have p0 : ∀ j, j < 8 ∨ 19 < j → j ≠ 0 → j ≠ 25 → j ≠ 26 → P 0 j = B 0 j := fun j h hj0 h25 h26 => by
      rw [← hP, am_upd_ne (by omega), am_upd_ne (by omega), am_upd_ne (by omega), g5.2.1 j (by omega) h25 h26, yB0 j h h25]
    refine RR_text hR (fun x hx => ?_) (fun k h1 h2 => p5 k h2) (fun i h1 h2 => p8 i h2) (fun j h0 h4 h5 => ?_) ⟨?_, ?_, ?_, ?_⟩ ⟨?_, ?_⟩ ⟨?_, ?_⟩ ?_ ?_
    · rcases (by omega : x ≤ 14 ∨ 15 ≤ x) with h | h
      · rw [pB x (by omega) (by omega) (by omega), hB x (by omega) h]
      · rw [pN x h]; exact nc x (by omega) (by omega) (by omega) (by omega)
    · rw [pN 15 (by decide)]; exact n15 j h0 h4 h5
    · rw [p0 2 (by decide) (by decide) (by decide) (by decide), hB0 2 (by decide)]
    · rw [p0 3 (by decide) (by decide) (by decide) (by decide), hB0 3 (by decide)]
    · rw [p0 24 (by decide) (by decide) (by decide) (by decide), hB0 24 (by decide)]
    · rw [p0 34 (by decide) (by decide) (by decide) (by decide), hB0 34 (by decide)]
    · rw [pN 15 (by decide), ← hN, am_upd_ne (by omega), am_upd_ne (by omega), am_upd_self, ← hP, am_upd_ne (by omega), am_upd_ne (by omega), am_upd_self]; exact g3.2.1
    · rw [pN 15 (by decide), ← hN, am_upd_ne (by omega), am_upd_self, ← hP, am_upd_ne (by omega), am_upd_self]; exact g3.2.2
    · rw [pN 20 (by decide), ← hN, am_upd_cell (by decide), am_upd_cell (by decide), am_upd_cell (by decide), am_upd_self]
    · rw [← hP, am_upd_ne (by omega), am_upd_ne (by omega), am_upd_ne (by omega), g5.2.1 8 (by decide) (by decide) (by decide)]; exact b308
    · exact Rb_cong (fun k hk => p5 _ (by omega)) (fun i hi => p8 _ (by omega)) (fun i hi => by rw [pN _ (by omega)]; exact nc _ (by omega) (by omega) (by omega) (by omega)) (fun i hi => by rw [pN _ (by omega)]; exact nc _ (by omega) (by omega) (by omega) (by omega)) hRb
    · rw [pN 15 (by decide), ← hN, am_upd_self, ← hP, am_upd_self]
theorem a_house (a1 : Int) : Alike (f_X10_house a1) (f_X11_house a1) := by
  intro M hR
  obtain ⟨t1, t2, t3, _⟩ := hR.2.2.2.2.1
  by_cases g : 0 ≤ a1 ∧ a1 ≤ M 20 7
  · obtain ⟨n, rfl⟩ : ∃ n : Nat, a1 = (n : Int) := ⟨a1.toNat, by omega⟩
    obtain ⟨v, N, P, e1, _, h14, _⟩ := house_both (B := M) hR g.2 (fun _ _ _ => rfl) (fun _ _ => rfl)
    obtain ⟨M2, hM2, e5, q2, s2, hc, hf⟩ := MS_ok N
    obtain ⟨v', N', P', e1', e2', h14', hlast⟩ := house_both (B := M2) (n := n) hR g.2 (fun x h1 h2 => by rw [hc x (by omega), h14 x h2]) (fun j hj => by rw [hf j (by omega) (by omega), h14 0 (by decide)])
    have ee := Option.some.inj (e1.symm.trans e1')
    have ev : v = v' := congrArg Prod.fst ee
    have eN : N = N' := congrArg Prod.snd ee
    subst ev
    subst eN
    refine ⟨v, N, P', e1, ?_, hlast s2 (fun x hx => hc x (by omega))⟩
    unfold f_X11_house
    rw [zlet_eq, zlet_eq, hM2]
    exact e2'
  · refine still hR (-1) 5 ?_ ?_
    · unfold f_X10_house f_X10_house_15
      by_cases g3 : a1 < 0
      · rw [if_pos g3, x_fail, bind_s]
      · rw [if_neg g3, if_neg (by omega), x_fail, bind_s]
    · unfold f_X11_house f_X11_starts f_X11_starts_17
      have st : am_upd (am_upd (am_upd M 15 0 5) 0 1 0) 0 0 0 0 8 = M 0 8 := by rw [am_upd_ne (by omega), am_upd_ne (by omega), am_upd_cell (by decide)]
      rw [zlet_eq, zlet_eq, st]
      by_cases g3 : a1 < 0
      · rw [if_pos g3, m_no, bind_s]
        dsimp only
        rw [if_pos (Or.inl rfl), bind_s]
        dsimp only
        rw [if_neg (show ¬ ¬ (0 : Int) = 0 by decide), am_upd_tw]
      · rw [if_neg g3, if_pos (by omega), m_no, bind_s]
        dsimp only
        rw [if_pos (Or.inl rfl), bind_s]
        dsimp only
        rw [if_neg (show ¬ ¬ (0 : Int) = 0 by decide), am_upd_tw]
