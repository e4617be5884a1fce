/-! LIVE: YEARS from their beginning on -/
theorem run_years {q N R : Nat} {A B : AM} {seed : Int} (hq : q = 23 ∨ q = 34) (hs : 0 ≤ seed ∧ seed ≤ 9999) (hI : Ic (B 5)) (h9 : B 5 5 ≤ 9999) (hRh : Rh (B 5) q A) (hY : yseq (B 5) 45 A 31 3 0 N 0 R) (h84 : B 5 84 = (N : Int)) (hN : N ≤ 30) (hR : A 45 2 = (R : Int)) (h60 : R ≤ 60) :
    ∃ A' B', f_X3_lead q seed A = some A' ∧ f_X11_runsYears seed B = some B' ∧ LR (B 5) q A B A' B' := by
  unfold f_X3_lead f_X11_runsYears
  rw [zlet_eq, zlet_eq, J7_fill _ _ (by decide), bind_s, zlet_eq, zlet_eq, zlet_eq, zlet_eq, zlet_eq, zlet_eq, zlet_eq, zlet_eq]
  generalize hA1 : am_row (am_upd (am_upd A 69 0 0) 69 4 seed) 70 (fun j => if j < 5 then 0 else am_upd (am_upd A 69 0 0) 69 4 seed 70 j) = A1
  generalize hB1 : am_upd (am_upd (am_upd (am_upd (am_upd (am_upd (am_upd (am_upd B 0 36 seed) 0 37 0) 0 38 0) 0 39 0) 0 40 0) 0 41 0) 0 42 0) 0 35 0 = B1
  have a0 : A1 69 0 = 0 := by rw [← hA1, am_row_ne (by decide), am_upd_ne (by omega), am_upd_self]
  have a4 : A1 69 4 = seed := by rw [← hA1, am_row_ne (by decide), am_upd_self]
  have a70 : ∀ i, i < 5 → A1 70 i = 0 := fun i hi => by rw [← hA1, am_row_self]; exact if_pos hi
  have ac : ∀ x, x ≠ 69 → x ≠ 70 → A1 x = A x := fun x h1 h2 => by rw [← hA1, am_row_ne h2, am_upd_cell h1, am_upd_cell h1]
  have bc : ∀ x, x ≠ 0 → B1 x = B x := fun x h => by rw [← hB1]; simp only [am_upd_cell h]
  have b35 : B1 0 35 = 0 := by rw [← hB1, am_upd_self]
  have b36 : B1 0 36 = seed := by rw [← hB1]; simp [am_upd_eq]
  have b37 : B1 0 37 = 0 := by rw [← hB1]; simp [am_upd_eq]
  have b38 : B1 0 38 = 0 := by rw [← hB1]; simp [am_upd_eq]
  have b39 : B1 0 39 = 0 := by rw [← hB1]; simp [am_upd_eq]
  have b40 : B1 0 40 = 0 := by rw [← hB1]; simp [am_upd_eq]
  have b41 : B1 0 41 = 0 := by rw [← hB1]; simp [am_upd_eq]
  have b42 : B1 0 42 = 0 := by rw [← hB1]; simp [am_upd_eq]
  have bj : ∀ j, j < 35 ∨ 42 < j → B1 0 j = B 0 j := fun j hj => by
    rw [← hB1, am_upd_ne (by omega), am_upd_ne (by omega), am_upd_ne (by omega), am_upd_ne (by omega), am_upd_ne (by omega), am_upd_ne (by omega), am_upd_ne (by omega), am_upd_ne (by omega)]
  have hL : LR (B 5) q A B A1 B1 := by
    refine ⟨by rw [bc 5 (by decide)]; exact ⟨hI, h9, fun _ _ _ => rfl⟩, ?_, ?_, ?_, fun i hi => ?_, ?_, fun x _ _ _ _ _ _ x7 x8 _ _ => ac x x7 x8, fun x x0 _ _ _ => bc x x0, bj⟩
    · rw [bc 5 (by decide)]; exact Rh_cong (fun i hi => ac _ (by omega) (by omega)) hRh
    · rw [a4, b36]; exact ⟨rfl, by omega, by omega⟩
    · rw [a0, b37]; exact ⟨rfl, by omega, by omega⟩
    · rw [a70 i (by omega), a0]
      refine ⟨?_, by omega, by omega⟩
      rcases (by omega : i = 0 ∨ i = 1 ∨ i = 2 ∨ i = 3) with rfl | rfl | rfl | rfl
      · exact b38.symm
      · exact b39.symm
      · exact b40.symm
      · exact b41.symm
    · rw [a70 4 (by omega), b42]
  obtain ⟨B', e1, A', k, g1, g2, g3⟩ := run_seq (R := R) hq hR h60 31 3 0 N 0 R 5 A1 B1 hY (Nat.le_refl _) hN (by omega) hL b35
  have hk3 := g1.2.2.2.1.2.2
  have hk : k ≤ 30000 := by omega
  refine ⟨A', B', ?_, ?_, g1⟩
  · rcases g3 with ⟨g3, g4, g5⟩ | ⟨g3, g4⟩
    · have := g5 (2000000 - k) 0 (by omega)
      rw [show 2000000 - k + k = zB by unfold zB; omega] at this
      rw [show ((0 : Nat) : Int) = 0 from rfl] at this
      rw [this]
      obtain ⟨f, hf⟩ : ∃ f, 2000000 - k = f + 1 := ⟨1999999 - k, by omega⟩
      rw [hf]
      refine lead_out ?_
      rw [LX_years hq g1.2.2.2.2.2.2.1 (by omega) (by omega), hR]
      omega
    · have := g4 (1999999 - k) 0 (by omega)
      rw [show 1999999 - k + k + 1 = zB by unfold zB; omega] at this
      exact this
  · have e84 : B1 5 (Int.toNat 84) = (N : Int) := by rw [bc 5 (by decide)]; exact h84
    rw [e84]
    unfold f_X11_doAll
    show (fo_X11_doAll (fo_X11_doOne (fc_X11_doAll 5)) _ _ _).bind _ = _
    unfold fo_X11_doAll
    have := e1 zB (by unfold zB; omega)
    rw [show ((0 : Nat) : Int) = 0 from rfl] at this
    rw [this, bind_s]
/-- LIVED changes -/
theorem RR_mk3 {M N1 N2 : AM} (hR : RR M) (hx : (∀ a, ¬ xcell a → a ≠ 19 → N1 a = M a) ∧ ∀ j, j ≠ 0 → j ≠ 19 → N1 15 j = M 15 j) (hm : (∀ a, ¬ mcell a → a ≠ 14 → N2 a = N1 a) ∧ N2 0 2 = N1 0 2 ∧ N2 0 3 = N1 0 3 ∧ N2 0 8 = N1 0 8 ∧ N2 0 10 = N1 0 10 ∧ N2 0 11 = N1 0 11 ∧ N2 0 24 = N1 0 24)
    (hI : Ic (N2 5)) (h9 : N2 5 5 ≤ 9999) (hRh : Rh (N2 5) 23 N1) (h012 : N2 5 0 = M 5 0 ∧ N2 5 1 = M 5 1 ∧ N2 5 2 = M 5 2) (h83 : ∀ k, 83 ≤ k → N2 5 k = M 5 k) (hs : N2 0 0 = N1 15 0) (hl : Rl N2) : RR N2 := by
  obtain ⟨r1, r2, r3, r4, r5, r6, ⟨b1, b2, b3, b4, b5⟩, ⟨n, hn, e1, e2, hb⟩, _⟩ := hR
  obtain ⟨hx1, hx2⟩ := hx
  obtain ⟨hm1, f2, f3, f8, f10, f11, f24⟩ := hm
  have h0 : N1 0 = M 0 := hx1 0 (by unfold xcell; omega) (by decide)
  have h15 : N2 15 = N1 15 := hm1 15 (by unfold mcell; omega) (by decide)
  have hc : ∀ a, ¬ xcell a → ¬ mcell a → a ≠ 14 → a ≠ 19 → N2 a = M a := fun a h1 h2 h3 h4 => (hm1 a h2 h3).trans (hx1 a h1 h4)
  rw [h0] at f2 f3 f8 f10 f11 f24
  refine ⟨by rw [h15, hs], ?_, ?_, ?_, ?_, ?_, ?_, ?_, hl⟩
  · rw [h15, hx2 1 (by decide) (by decide), hx2 2 (by decide) (by decide), f2, f3]; exact r2
  · rw [h15, hx2 4 (by decide) (by decide), hx2 5 (by decide) (by decide), f10, f11]; exact r3
  · exact Rt_cong (hc 1 (by unfold xcell; omega) (by unfold mcell; omega) (by decide) (by decide)) (hc 2 (by unfold xcell; omega) (by unfold mcell; omega) (by decide) (by decide)) (hc 3 (by unfold xcell; omega) (by unfold mcell; omega) (by decide) (by decide)) (fun t ht => ⟨hc _ (by unfold xcell; omega) (by unfold mcell; omega) (by omega) (by omega), hc _ (by unfold xcell; omega) (by unfold mcell; omega) (by omega) (by omega)⟩) r4
  · unfold Rp at r5 ⊢
    rw [hc 20 (by unfold xcell; omega) (by unfold mcell; omega) (by decide) (by decide), hc 21 (by unfold xcell; omega) (by unfold mcell; omega) (by decide) (by decide), hc 4 (by unfold xcell; omega) (by unfold mcell; omega) (by decide) (by decide), f8]
    exact r5
  · unfold Rk at r6 ⊢
    rw [hc 22 (by unfold xcell; omega) (by unfold mcell; omega) (by decide) (by decide)]
    exact r6
  · have hb1 := hI.2.1
    have hb2 := hI.2.2.1
    refine ⟨Ic_congr blk83 hI, by rw [blk83 5 (by omega)]; exact h9, ?_, ?_, ?_⟩
    · refine Rh_congr blk83 (by omega) (by omega) ?_
      exact Rh_cong (fun i hi => hm1 _ (by unfold mcell; omega) (by omega)) hRh
    · rw [hc 8 (by unfold xcell; omega) (by unfold mcell; omega) (by decide) (by decide)]
      unfold Rn at b4 ⊢
      rw [hc 32 (by unfold xcell; omega) (by unfold mcell; omega) (by decide) (by decide), blk83 0 (by omega), blk83 1 (by omega), blk83 2 (by omega), h012.1, h012.2.1, h012.2.2]
      rw [blk83 0 (by omega), blk83 1 (by omega), blk83 2 (by omega)] at b4
      exact b4
    · refine Ry_c (c := blk (M 5) 0) (by rw [blk83 1 (by omega), blk83 1 (by omega), h012.2.1]; omega) (by rw [blk83 2 (by omega), blk83 2 (by omega), h012.2.2]) (fun k h1 h2 => ?_) (Ry_cong (fun i hi => hc _ (by unfold xcell; omega) (by unfold mcell; omega) (by omega) (by omega)) b5)
      rw [blk0_at h2, blk0_at h2, h83 k h1]
  · refine ⟨n, hn, by rw [h15, hx2 13 (by decide) (by decide)]; exact e1, by rw [f24]; exact e2, fun i hi => ?_⟩
    exact Rb_cong (fun k hk => h83 _ (by omega)) (fun k hk => by rw [hc 8 (by unfold xcell; omega) (by unfold mcell; omega) (by decide) (by decide)]) (fun j hj => hc _ (by unfold xcell; omega) (by unfold mcell; omega) (by omega) (by omega)) (fun j hj => hc _ (by unfold xcell; omega) (by unfold mcell; omega) (by omega) (by omega)) (hb i hi)
/-- what the relation says of the YEARS -/
theorem RR_years {M : AM} (hR : RR M) : (M 5 83 = 0 ∧ M 45 0 = 0) ∨ (M 5 83 = 1 ∧ M 45 0 = 1 ∧ ∃ n r : Nat, M 5 84 = (n : Int) ∧ n ≤ 30 ∧ M 45 2 = (r : Int) ∧ r ≤ 60 ∧ yseq (M 5) 45 M 31 3 0 n 0 r) := by
  obtain ⟨_, _, _, _, h⟩ := hR.2.2.2.2.2.2.1
  unfold Ry at h
  rw [blk0_at (by omega), blk0_at (by omega)] at h
  rcases h with h | ⟨a1, a2, a3, n, r, b1, b2, b3, b4, b5⟩
  · exact Or.inl h
  · exact Or.inr ⟨a1, a2, n, r, b1, b2, b3, b4, yseq_c (c := blk (M 5) 0) (E := 30) (by rw [blk0_at (by omega)]; omega) (by rw [blk0_at (by omega)]) (fun k h1 h2 => (blk0_at (by omega)).symm) _ _ _ _ _ _ b2 b5⟩
