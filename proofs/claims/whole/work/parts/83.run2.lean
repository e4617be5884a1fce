/-! LIVE: a plain STEP on both sides -/
theorem plT_b {c : Nat → Int} {z k a : Int} (h0 : k = 0 → 0 ≤ a ∧ a ≤ 99) (i : Nat) : 0 ≤ plT c z k a i ∧ plT c z k a i ≤ 99 := by
  have hb := lostC_b c a.toNat
  unfold plT
  by_cases i0 : i = 0
  · rw [if_pos i0]; split <;> omega
  · rw [if_neg i0]
    by_cases i1 : i = 1
    · rw [if_pos i1]
      by_cases k0 : k = 0
      · have := h0 k0
        rw [if_pos k0]; split <;> omega
      · rw [if_neg k0]; omega
    · rw [if_neg i1]
      by_cases i2 : i = 2
      · rw [if_pos i2]
        by_cases k0 : k = 0
        · rw [if_pos k0]; split <;> omega
        · rw [if_neg k0]; omega
      · rw [if_neg i2]
        by_cases i3 : i = 3
        · rw [if_pos i3]
          by_cases k4 : k = 4
          · rw [if_pos k4]; split <;> omega
          · rw [if_neg k4]
            by_cases k5 : k = 5
            · rw [if_pos k5]; split <;> omega
            · rw [if_neg k5]; omega
        · rw [if_neg i3]; omega
theorem a85 {s : Nat} (hs : s < 30) : o_add 85 (o_mul 9 (s : Int)) = ((85 + 9 * s : Nat) : Int) := by
  rw [o_mul_eq (by omega) (by omega), o_add_eq (by omega) (by omega)]; omega
theorem run_plain {c0 : Nat → Int} {q : Nat} {A0 B0 A B : AM} {s r R : Nat} (h : Int → Int → AM → Option AM) (hq : q = 23 ∨ q = 34) (hR : A0 45 2 = (R : Int)) (h60 : R ≤ 60) (hr : r < R) (hs : s < 30) (hy : ystep c0 45 A0 s r) (hk : c0 (85 + 9 * s) ≤ 5) (hL : LR c0 q A0 B0 A B) (h0 : B 0 35 = 0) (h3 : A 69 0 < 300) :
    ∃ B2 A2, fo_X11_doOne h (s : Int) B = some B2 ∧ LR c0 q A0 B0 A2 B2 ∧ B2 0 35 = 0 ∧ A2 69 0 = A 69 0 + 1 ∧ A2 71 = A 71 ∧ ∀ n t : Nat, t + 1 < 1000000 → f_X3_lead_24 (n + 1) q (r : Int) (t : Int) A = f_X3_lead_24 n q ((r + 1 : Nat) : Int) ((t + 1 : Nat) : Int) A2 := by
  have d : ∀ j : Nat, j < 1775 → (0 : Int) ≤ (j : Int) ∧ (j : Int) < 1775 := fun j hj => ⟨by omega, by omega⟩
  have hL1 := LR_tick hq hL h3
  have hbd : ∀ i, i < 4 → A 70 i ≤ 99 * A 69 0 := fun i hi => (hL.2.2.2.2.1 i hi).2.2
  have y45 : A 45 = A0 45 := LX_years hq hL.2.2.2.2.2.2.1 (by omega) (by omega)
  have y46 : A 46 = A0 46 := LX_years hq hL.2.2.2.2.2.2.1 (by omega) (by omega)
  have d1 := hL.2.2.2.1
  have hB1 : am_upd B 0 37 (o_add (B 0 37) 1) = am_upd B 0 37 (B 0 37 + 1) := by rw [o_add_eq (by omega) (by omega)]
  have hA70 : am_upd A 69 0 (A 69 0 + 1) 70 = A 70 := am_upd_cell (by decide)
  have hA71 : am_upd A 69 0 (A 69 0 + 1) 71 = A 71 := am_upd_cell (by decide)
  have hA69 : am_upd A 69 0 (A 69 0 + 1) 69 0 = A 69 0 + 1 := am_upd_self _ _ _ _
  have hB35 : am_upd B 0 37 (B 0 37 + 1) 0 35 = 0 := by rw [am_upd_ne (by omega)]; exact h0
  generalize hA1 : am_upd A 69 0 (A 69 0 + 1) = A1 at *
  generalize hB1e : am_upd B 0 37 (B 0 37 + 1) = B1 at *
  have hy1 := LR_step hq hL1 hy
  have ekc : B1 5 (85 + 9 * s) = c0 (85 + 9 * s) := hL1.1.2.2 _ (by omega) (by omega)
  have hk1 : B1 5 (85 + 9 * s) ≤ 5 := by rw [ekc]; exact hk
  obtain ⟨⟨l1, l2, l3⟩, lb, ⟨lc1, lc2, lc3⟩, ⟨ld1, ld2, ld3⟩, le, lf, lg, li⟩ := hL1
  have hT : T70 A1 := fun i hi => by have := le i hi; omega
  obtain ⟨N, e, p1, p2, p3, p4, p5, p6, p7⟩ := x_plain l1 l2 lb (by omega) (by omega) ⟨lc2, lc3⟩ hT hy1 hk1
  have hys := hy1
  unfold ystep at hys
  obtain ⟨y1, y2, y3, y4, y5, y6, y7⟩ := hys
  have m0 : A1 70 1 = B1 0 39 ∧ 0 ≤ A1 70 1 ∧ A1 70 1 ≤ 99 * A1 69 0 := le 1 (by decide)
  have m1 : A1 70 2 = B1 0 40 ∧ 0 ≤ A1 70 2 ∧ A1 70 2 ≤ 99 * A1 69 0 := le 2 (by decide)
  have m2 : A1 70 3 = B1 0 41 ∧ 0 ≤ A1 70 3 ∧ A1 70 3 ≤ 99 * A1 69 0 := le 3 (by decide)
  have mm : A1 70 0 = B1 0 38 ∧ 0 ≤ A1 70 0 ∧ A1 70 0 ≤ 99 * A1 69 0 := le 0 (by decide)
  have hk0 : 0 ≤ B1 5 (85 + 9 * s) ∧ B1 5 (85 + 9 * s) ≤ 5 := ⟨y1, hk1⟩
  have ha0 : B1 5 (85 + 9 * s) = 0 → 0 ≤ B1 5 (86 + 9 * s) ∧ B1 5 (86 + 9 * s) ≤ 99 := fun h => by have := y4 h; omega
  have ha34 : B1 5 (85 + 9 * s) = 3 ∨ B1 5 (85 + 9 * s) = 4 → 0 ≤ B1 5 (86 + 9 * s) ∧ B1 5 (86 + 9 * s) < B1 5 1 := fun h => (y6 h).2
  obtain ⟨NB, eB, w1, w2, w3, w4, w5, w6, w7⟩ := m_plain (M := B1) l1 l2 hs hk0 rfl (fun _ => by rw [show 85 + 9 * s + 1 = 86 + 9 * s by omega]) ha0 ha34 (by rw [← lc1]; exact ⟨lc2, lc3⟩) (by omega) (by omega) (by omega)
  obtain ⟨pk1, pk2, pk3⟩ := plC_keep l1 l2 (z := B1 0 36) (by rw [← lc1]; exact ⟨lc2, lc3⟩) hk0 ha0 ha34
  rw [lc1] at p1 p2 p3
  have hpb := fun i => plT_b (c := B1 5) (z := B1 0 36) ha0 i
  have hpz := plZ_r (c := B1 5) (z := B1 0 36) (k := B1 5 (85 + 9 * s)) (by rw [← lc1]; exact ⟨lc2, lc3⟩)
  have hT0 : plT (B1 5) (B1 0 36) (B1 5 (85 + 9 * s)) (B1 5 (86 + 9 * s)) 0 = if plF (B1 5) (B1 0 36) (B1 5 (85 + 9 * s)) (B1 5 (86 + 9 * s)) then 0 else 1 := rfl
  generalize hKK : B1 5 (85 + 9 * s) = K at *
  generalize hAA : B1 5 (86 + 9 * s) = a at *
  have key : fo_X11_doOne h (s : Int) B = some (am_upd NB 0 38 (B1 0 38 + plT (B1 5) (B1 0 36) K a 0)) := by
    unfold fo_X11_doOne
    rw [if_pos (by omega), zlet_eq, hB1, a85 hs, if_pos (d _ (by omega)), tnc, hKK, if_neg (by omega), eB, bind_s, hT0]
    dsimp only
    cases hF : plF (B1 5) (B1 0 36) K a
    · simp only [Bool.false_eq_true, if_false, if_true]
      rw [zlet_eq, o_add_eq (by omega) (by omega)]
    · simp only [if_true, i10, if_false]
      rw [zlet_eq, o_add_eq (by omega) (by omega)]
  refine ⟨_, N, key, ⟨⟨?_, ?_, fun j h1 h2 => ?_⟩, ?_, ⟨?_, ?_, ?_⟩, ⟨?_, ?_, ?_⟩, fun i hi => ⟨?_, ?_, ?_⟩, ?_, LX_trans lg p5, ⟨fun x x0 x5 x9 x10 => ?_, fun j hj => ?_⟩⟩, ?_, ?_, ?_, ?_⟩
  · rw [am_upd_cell (by decide), w1]; exact pk1
  · rw [am_upd_cell (by decide), w1]; exact pk2
  · rw [am_upd_cell (by decide), w1, pk3 j h1 h2]; exact l3 j h1 h2
  · rw [am_upd_cell (by decide), w1]; exact p1
  · rw [p2, am_upd_ne (by omega), w2]
  · rw [p2]; exact hpz.1
  · rw [p2]; exact hpz.2
  · rw [p6 0 (by decide), am_upd_ne (by omega), w7 37 (by decide) (by decide) (by decide) (by decide)]; exact ld1
  · rw [p6 0 (by decide)]; exact ld2
  · rw [p6 0 (by decide)]; exact ld3
  · have x0 := (le i hi).1
    rw [p3 i hi, x0]
    rcases (by omega : i = 0 ∨ i = 1 ∨ i = 2 ∨ i = 3) with rfl | rfl | rfl | rfl
    · exact (am_upd_self _ _ _ _).symm
    · rw [am_upd_ne (by omega)]; exact w3.symm
    · rw [am_upd_ne (by omega)]; exact w4.symm
    · rw [am_upd_ne (by omega)]; exact w5.symm
  · rw [p3 i hi]
    have := (le i hi).2.1
    have := (hpb i).1
    omega
  · rw [p3 i hi, p6 0 (by decide), hA69, hA70]
    have := hbd i hi
    have := (hpb i).2
    omega
  · rw [p4 4 (by decide), am_upd_ne (by omega), w7 42 (by decide) (by decide) (by decide) (by decide)]; exact lf
  · rw [am_upd_cell x0, w6 x x0 x5 x9 x10]; exact li.1 x x0 x5 x9 x10
  · rw [am_upd_ne (by omega), w7 j (by omega) (by omega) (by omega) (by omega)]; exact li.2 j hj
  · rw [am_upd_ne (by omega), w7 35 (by decide) (by decide) (by decide) (by decide)]; exact hB35
  · rw [p6 0 (by decide)]; exact hA69
  · rw [p7]; exact hA71
  · intro n t ht
    have hkind : ¬ A 46 r = 21 := by
      have y3' := hy.2.2.1
      replace y3' : A0 46 r = ykind (c0 (85 + 9 * s)) := y3'
      rw [y46, y3', ← ekc]
      unfold ykind
      rcases (by omega : K = 0 ∨ K = 1 ∨ K = 2 ∨ K = 3 ∨ K = 4 ∨ K = 5) with rfl | rfl | rfl | rfl | rfl | rfl <;> decide
    exact lead_turn (by omega) (by rw [y45]; exact hR) hr h60 hkind h3 d1.2.1 (by rw [hA1]; exact e)
/-! LIVE: a look changes nothing -/
theorem LR_look {c0 : Nat → Int} {q : Nat} {A0 B0 A B N P : AM} (hq : q = 23 ∨ q = 34) (hL : LR c0 q A0 B0 A B) (h1 : Hm (B 5) q A N) (h2 : P 5 = B 5) (h3 : Eo [9] B P) : LR c0 q A0 B0 N P := by
  obtain ⟨l1, lb, lc, ld, le, lf, lg, li⟩ := hL
  have n69 : N 69 = A 69 := h1.2 69 (by omega) (by omega)
  have n70 : N 70 = A 70 := h1.2 70 (by omega) (by omega)
  have p0 : P 0 = B 0 := h3 0 (by decide)
  refine ⟨by rw [h2]; exact l1, by rw [h2]; exact h1.1, by rw [n69, p0]; exact lc, by rw [n69, p0]; exact ld, fun i hi => by rw [n69, n70, p0]; exact le i hi, by rw [n70, p0]; exact lf, ?_, ?_⟩
  · exact fun x a1 a2 a3 a4 a5 a6 a7 a8 a9 a10 => by rw [h1.2 x a1 a6]; exact lg x a1 a2 a3 a4 a5 a6 a7 a8 a9 a10
  · exact ⟨fun x x0 x5 x9 x10 => by rw [h3 x (by simp; exact x9)]; exact li.1 x x0 x5 x9 x10, fun j hj => by rw [p0]; exact li.2 j hj⟩
theorem step_when {q r : Nat} {A N : AM} {v : Int} (hr : r < 60) (hk : A 46 r = 17) (e : f_X3_isSo q (r : Int) A = some (v, N)) : f_X3_doStep q (r : Int) A = some (if v = 0 then o_add (N 51 r) 1 else ((r + 1 : Nat) : Int), N) := by
  unfold f_X3_doStep
  rw [if_pos (by omega)]
  simp only [tnc, hk]
  rw [if_neg (by decide), if_neg (by decide), if_neg (by decide), if_neg (by decide), if_neg (by decide), if_neg (by decide), if_pos trivial, e, bind_s]
  dsimp only
  by_cases g : v = 0
  · rw [if_pos g, if_pos g]
  · rw [if_neg g, if_neg g, o_succ (by omega)]
theorem step_loop {q r : Nat} {A : AM} (hr : r < 60) (hk : A 46 r = 20) : f_X3_doStep q (r : Int) A = some (((r + 1 : Nat) : Int), am_upd A 71 r (A 50 r)) := by
  unfold f_X3_doStep
  rw [if_pos (by omega)]
  simp only [tnc, hk]
  rw [if_neg (by decide), if_neg (by decide), if_neg (by decide), if_neg (by decide), if_neg (by decide), if_neg (by decide), if_neg (by decide), if_neg (by decide), if_neg (by decide), if_pos trivial, zlet_eq]
  unfold f_X3_doStep_248
  rw [if_pos (by decide), o_succ (by omega)]
theorem step_stop {q r : Nat} {A : AM} (hr : r < 60) (hk : A 46 r = 22) : f_X3_doStep q (r : Int) A = some (A 45 2, A) := by
  unfold f_X3_doStep
  rw [if_pos (by omega)]
  simp only [tnc, hk]
  rw [if_neg (by decide), if_neg (by decide), if_neg (by decide), if_neg (by decide), if_neg (by decide), if_neg (by decide), if_neg (by decide), if_neg (by decide), if_neg (by decide), if_neg (by decide), if_neg (by decide), if_pos trivial]
theorem all_over {h : Int → AM → Option AM} {m : Nat} {e u : Int} {B : AM} (ho : ¬ B 0 35 = 0) : f_X11_doAll_2 h (m + 1) e u B = some B := by
  rw [f_X11_doAll_2]
  by_cases g : e ≤ u
  · rw [if_pos g]
  · rw [if_neg g, if_pos ho]
theorem all_end {h : Int → AM → Option AM} {m : Nat} {e u : Int} {B : AM} (g : e ≤ u) : f_X11_doAll_2 h (m + 1) e u B = some B := by
  rw [f_X11_doAll_2, if_pos g]
theorem all_one {h : Int → AM → Option AM} {m s e u : Nat} {B B2 : AM} (hs : s < 30) (hse : s < e) (h0 : B 0 35 = 0) (e1 : h (s : Int) B = some B2) (eu : B2 5 (93 + 9 * s) = (u : Int)) : f_X11_doAll_2 h (m + 1) (e : Int) (s : Int) B = f_X11_doAll_2 h m (e : Int) (u : Int) B2 := by
  have a8 : o_add ((85 + 9 * s : Nat) : Int) 8 = ((93 + 9 * s : Nat) : Int) := by rw [o_add_eq (by omega) (by omega)]; omega
  rw [f_X11_doAll_2, if_neg (by omega), if_neg (fun h => h h0), e1, bind_s, a85 hs, a8, if_pos (by omega), zlet_eq, tnc, eu]
/-! what a STEP is, piece by piece -/
theorem ystep_kind {c : Nat → Int} {q : Nat} {M : AM} {s r : Nat} (h : ystep c q M s r) : 0 ≤ c (85 + 9 * s) ∧ c (85 + 9 * s) ≤ 8 ∧ M (q + 1) r = ykind (c (85 + 9 * s)) := ⟨h.1, h.2.1, h.2.2.1⟩
theorem ystep_loop {c : Nat → Int} {q : Nat} {M : AM} {s r : Nat} (h : ystep c q M s r) (h7 : c (85 + 9 * s) = 7) : M (q + 5) r = c (86 + 9 * s) ∧ 1 ≤ c (86 + 9 * s) ∧ c (86 + 9 * s) ≤ 99 := h.2.2.2.2.1 h7
theorem ystep_when {c : Nat → Int} {q : Nat} {M : AM} {s r : Nat} (h : ystep c q M s r) (h6 : c (85 + 9 * s) = 6) : (M (q + 3) r = c (86 + 9 * s) ∧ 0 ≤ c (86 + 9 * s) ∧ c (86 + 9 * s) < c 2) ∧ (0 ≤ c (90 + 9 * s) ∧ c (90 + 9 * s) ≤ 2) ∧ M (q + 2) r = ytest (c (90 + 9 * s)) ∧ (c (90 + 9 * s) = 1 → M (q + 4) r = c (92 + 9 * s) ∧ M (q + 5) r = c (91 + 9 * s)) := by
  obtain ⟨t1, t2, t3, t4, t5, t6, t7⟩ := h.2.2.2.2.2.2 h6
  exact ⟨⟨t1, t2, t3⟩, ⟨t4, t5⟩, t6, fun h => ⟨(t7 h).1, (t7 h).2.1⟩⟩
theorem ykind_21 {k : Int} (h : 0 ≤ k ∧ k ≤ 8) : ¬ ykind k = 21 := by
  unfold ykind
  rcases (by omega : k = 0 ∨ k = 1 ∨ k = 2 ∨ k = 3 ∨ k = 4 ∨ k = 5 ∨ k = 6 ∨ k = 7 ∨ k = 8) with rfl | rfl | rfl | rfl | rfl | rfl | rfl | rfl | rfl <;> decide
theorem d1775 {j : Nat} (hj : j < 1775) : (0 : Int) ≤ (j : Int) ∧ (j : Int) < 1775 := ⟨by omega, by omega⟩
theorem a93 {s : Nat} (hs : s < 30) : o_add ((85 + 9 * s : Nat) : Int) 8 = ((93 + 9 * s : Nat) : Int) := by rw [o_add_eq (by omega) (by omega)]; omega
/-- the beginning of a STEP in the model -/
theorem doOne_in {h : Int → Int → AM → Option AM} {s : Nat} {B : AM} (hs : s < 30) (h3 : 0 ≤ B 0 37 ∧ B 0 37 < 300) : fo_X11_doOne h (s : Int) B =
    if 6 ≤ am_upd B 0 37 (B 0 37 + 1) 5 (85 + 9 * s) then (if ¬ am_upd B 0 37 (B 0 37 + 1) 5 (85 + 9 * s) = 6 then f_X11_doOne_110 h (s : Int) ((85 + 9 * s : Nat) : Int) (am_upd B 0 37 (B 0 37 + 1) 5 (85 + 9 * s)) (am_upd B 0 37 (B 0 37 + 1)) else ((f_X11_isSo ((85 + 9 * s : Nat) : Int) (am_upd B 0 37 (B 0 37 + 1))).bind fun x3 => if x3.1 = 0 then f_X11_doOne_110 h (s : Int) ((85 + 9 * s : Nat) : Int) (am_upd B 0 37 (B 0 37 + 1) 5 (85 + 9 * s)) x3.2 else ((h ((s + 1 : Nat) : Int) (x3.2 5 (93 + 9 * s)) x3.2).bind fun x5 => some x5))) else ((f_X11_does ((85 + 9 * s : Nat) : Int) (am_upd B 0 37 (B 0 37 + 1))).bind fun x6 => if x6.1 = 0 then (zlet (am_upd x6.2 0 38 (o_add (am_upd B 0 37 (B 0 37 + 1) 0 38) 1)) fun M7 => some M7) else (zlet (am_upd x6.2 0 38 (o_add (am_upd B 0 37 (B 0 37 + 1) 0 38) 0)) fun M8 => some M8)) := by
  unfold fo_X11_doOne
  rw [if_pos (by omega), zlet_eq, o_add_eq (x := B 0 37) (by omega) (by omega), a85 hs, if_pos (d1775 (by omega)), tnc, a93 hs, o_succ (by omega)]
  simp only [if_pos (d1775 (show 93 + 9 * s < 1775 by omega)), tnc]
/-- STOP -/
theorem stop_case {c0 : Nat → Int} {q : Nat} {A0 B0 A B : AM} {s r r2 R : Nat} (h : Int → Int → AM → Option AM) (hq : q = 23 ∨ q = 34) (hR : A0 45 2 = (R : Int)) (h60 : R ≤ 60) (hr : r < R) (hs : s < 30) (e22 : A0 46 r = 22) (h8 : c0 (85 + 9 * s) = 8) (hL : LR c0 q A0 B0 A B) (h3 : A 69 0 < 300) :
    ∃ B2, fo_X11_doOne h (s : Int) B = some B2 ∧ ¬ B2 0 35 = 0 ∧ LG c0 q A0 B0 A r r r2 0 B2 := by
  have hL1 := LR_tick hq hL h3
  have y45 : A 45 = A0 45 := LX_years hq hL.2.2.2.2.2.2.1 (by omega) (by omega)
  have y46 : A 46 = A0 46 := LX_years hq hL.2.2.2.2.2.2.1 (by omega) (by omega)
  have d1 := hL.2.2.2.1
  have hE := LR_over hL1 1
  have z46 : am_upd A 69 0 (A 69 0 + 1) 46 = A0 46 := by rw [am_upd_cell (by decide)]; exact y46
  have z45 : am_upd A 69 0 (A 69 0 + 1) 45 = A0 45 := by rw [am_upd_cell (by decide)]; exact y45
  have ek : am_upd B 0 37 (B 0 37 + 1) 5 (85 + 9 * s) = 8 := by rw [hL1.1.2.2 _ (by omega) (by omega), h8]
  have e1 : am_upd A 69 0 (A 69 0 + 1) 69 0 = A 69 0 + 1 := am_upd_self _ _ _ _
  have ho : ¬ am_upd (am_upd B 0 37 (B 0 37 + 1)) 0 35 1 0 35 = 0 := by rw [am_upd_self]; decide
  refine ⟨am_upd (am_upd B 0 37 (B 0 37 + 1)) 0 35 1, ?_, ho, am_upd A 69 0 (A 69 0 + 1), 1, hE, by omega, Or.inr ⟨ho, fun n t ht => ?_⟩⟩
  · rw [doOne_in hs (by omega), ek, if_pos (by decide), if_pos (by decide)]
    unfold f_X11_doOne_110
    rw [if_pos (by decide), if_neg (by decide), zlet_eq]
  · rw [lead_turn (R := R) (by omega) (by rw [y45]; exact hR) hr h60 (by rw [y46, e22]; decide) h3 d1.2.1 (step_stop (q := q) (r := r) (by omega) (by rw [z46, e22]))]
    exact lead_out (Int.le_refl _)
/-- WHEN -/
theorem when_case {c0 : Nat → Int} {q : Nat} {A0 B0 A B : AM} {s r m u R : Nat} (h : Int → Int → AM → Option AM) (hq : q = 23 ∨ q = 34) (hR : A0 45 2 = (R : Int)) (h60 : R ≤ 60) (hrm : r < m) (hmR : m < R) (hs : s < 30) (hy : ystep c0 45 A0 s r) (h6 : c0 (85 + 9 * s) = 6) (e21 : A0 46 m = 21) (e51m : A0 51 m = (r : Int)) (e51r : A0 51 r = (m : Int)) (hu : c0 (93 + 9 * s) = (u : Int))
    (body : ∀ A B, LR c0 q A0 B0 A B → B 0 35 = 0 → ∃ B', h ((s + 1 : Nat) : Int) (u : Int) B = some B' ∧ LG c0 q A0 B0 A (r + 1) (r + 1) m 0 B') (hL : LR c0 q A0 B0 A B) (h0 : B 0 35 = 0) (h3 : A 69 0 < 300) :
    ∃ B2, fo_X11_doOne h (s : Int) B = some B2 ∧ LG c0 q A0 B0 A r r (m + 1) 0 B2 := by
  have hL1 := LR_tick hq hL h3
  have y45 : A 45 = A0 45 := LX_years hq hL.2.2.2.2.2.2.1 (by omega) (by omega)
  have y46 : A 46 = A0 46 := LX_years hq hL.2.2.2.2.2.2.1 (by omega) (by omega)
  have e17 : A0 46 r = 17 := by rw [show A0 46 r = ykind (c0 (85 + 9 * s)) from (ystep_kind hy).2.2, h6]; rfl
  have d1 := hL.2.2.2.1
  have hA71 : am_upd A 69 0 (A 69 0 + 1) 71 = A 71 := am_upd_cell (by decide)
  have hA69 : am_upd A 69 0 (A 69 0 + 1) 69 0 = A 69 0 + 1 := am_upd_self _ _ _ _
  have hB35 : am_upd B 0 37 (B 0 37 + 1) 0 35 = 0 := by rw [am_upd_ne (by omega)]; exact h0
  have turn : ∀ {r' : Int} {N : AM}, f_X3_doStep q (r : Int) (am_upd A 69 0 (A 69 0 + 1)) = some (r', N) → ∀ n t : Nat, t + 1 < 1000000 → f_X3_lead_24 (n + 1) q (r : Int) (t : Int) A = f_X3_lead_24 n q r' ((t + 1 : Nat) : Int) N :=
    fun e n t ht => lead_turn (R := R) (by omega) (by rw [y45]; exact hR) (by omega) h60 (by rw [y46, e17]; decide) h3 d1.2.1 e
  rw [doOne_in hs (by omega)]
  have hstep := LR_step hq hL1 hy
  generalize am_upd A 69 0 (A 69 0 + 1) = A1 at *
  generalize am_upd B 0 37 (B 0 37 + 1) = B1 at *
  have z46 : A1 46 = A0 46 := LX_years hq hL1.2.2.2.2.2.2.1 (by omega) (by omega)
  have z51 : A1 51 = A0 51 := LX_years hq hL1.2.2.2.2.2.2.1 (by omega) (by omega)
  have ek : B1 5 (85 + 9 * s) = 6 := by rw [hL1.1.2.2 _ (by omega) (by omega), h6]
  obtain ⟨⟨t1, t2, t3⟩, t4, t6, t7⟩ := ystep_when hstep ek
  replace t1 : A1 48 r = B1 5 (86 + 9 * s) := t1
  replace t6 : A1 47 r = ytest (B1 5 (90 + 9 * s)) := t6
  replace t7 : B1 5 (90 + 9 * s) = 1 → A1 49 r = B1 5 (92 + 9 * s) ∧ A1 50 r = B1 5 (91 + 9 * s) := t7
  obtain ⟨cp, hcp⟩ : ∃ cp : Nat, B1 5 (86 + 9 * s) = (cp : Int) := ⟨(B1 5 (86 + 9 * s)).toNat, by clear t7; omega⟩
  rw [hcp] at t1 t2 t3
  obtain ⟨N, eN, hN⟩ := x_isSo (c := B1 5) (M := A1) (q := q) (r := r) (k := cp) (t := B1 5 (90 + 9 * s)) (n := B1 5 (91 + 9 * s)) (o := B1 5 (92 + 9 * s)) hL1.1.1 hL1.2.1 (by clear t7; omega) t4 t1 t3 t6 t7 (by clear t7; omega) hq
  clear t7
  obtain ⟨P, eP, p5, hP⟩ := m_isSo (M := B1) (s := s) (k := cp) hL1.1.1 hs (t := B1 5 (90 + 9 * s)) t4 (by rw [show 85 + 9 * s + 1 = 86 + 9 * s by omega]; exact hcp) t3 (by rw [show 85 + 9 * s + 5 = 90 + 9 * s by omega])
  rw [show 85 + 9 * s + 6 = 91 + 9 * s by omega, show 85 + 9 * s + 7 = 92 + 9 * s by omega] at eP
  have hL2 := LR_look hq hL1 hN p5 hP
  have n71 : N 71 = A1 71 := hN.2 71 (by omega) (by omega)
  have n51 : N 51 = A1 51 := hN.2 51 (by omega) (by omega)
  have n69 : N 69 = A1 69 := hN.2 69 (by omega) (by omega)
  have P35 : P 0 35 = 0 := by rw [hP 0 (by decide)]; exact hB35
  have st := step_when (q := q) (r := r) (by omega) (by rw [z46, e17]) eN
  have Pu : P 5 (93 + 9 * s) = (u : Int) := by rw [hL2.1.2.2 _ (by omega) (by omega), hu]
  rw [ek, if_pos (by decide), if_neg (by decide), eP, bind_s]
  dsimp only
  generalize soB (B1 5) (B1 5 (90 + 9 * s)) cp (B1 5 (91 + 9 * s)) (B1 5 (92 + 9 * s)) = so at *
  cases so
  · simp only [Bool.false_eq_true, if_false, if_true] at st ⊢
    have st2 := turn st
    rw [n51, z51, e51r, o_succ (by omega)] at st2
    refine ⟨P, ?_, LG_pre (k1 := 1) (y := 0) st2 (by rw [n69]; omega) (fun j _ => by rw [n71, hA71]) (Nat.le_refl r) (LG_nil hL2 P35)⟩
    unfold f_X11_doOne_110
    rw [if_pos (by decide), if_pos (by decide)]
  · simp only [if_true, i10, if_false] at st ⊢
    obtain ⟨B3, v1, v2⟩ := body N P hL2 P35
    refine ⟨B3, by rw [Pu, v1, bind_s], ?_⟩
    by_cases ho : B3 0 35 = 0
    · obtain ⟨A3, k, g1, g2, g3⟩ := v2
      rcases g3 with ⟨g3, g4, g5⟩ | ⟨g3, g4⟩
      · have w45 : A3 45 = A0 45 := LX_years hq g1.2.2.2.2.2.2.1 (by omega) (by omega)
        have w46 : A3 46 = A0 46 := LX_years hq g1.2.2.2.2.2.2.1 (by omega) (by omega)
        have w51 : A3 51 = A0 51 := LX_years hq g1.2.2.2.2.2.2.1 (by omega) (by omega)
        refine LG_pre (k1 := 1 + k + 1) (A2 := A3) (r1 := m + 1) (y := 0) (fun n t ht => ?_) (by rw [n69] at g2; omega) (fun j hj => by rw [g4 j (by omega), n71, hA71]) (Nat.le_refl r) (LG_nil g1 ho)
        rw [show n + (1 + k + 1) = (n + 1 + k) + 1 by omega, turn st (n + 1 + k) t (by omega), g5 (n + 1) (t + 1) (by omega)]
        rw [lead_end (R := R) (by omega) (by rw [w45]; exact hR) (by omega) h60 (by rw [w46]; exact e21) (pass_when (r := r) (by omega) (by omega) (by rw [w51]; exact e51m) (by rw [w46, e17]; decide))]
        rw [show t + 1 + k + 1 = t + (1 + k + 1) by omega]
      · exact absurd ho g3
    · exact LG_pre (k1 := 1) (A2 := N) (y := 0) (turn st) (by rw [n69]; omega) (fun j _ => by rw [n71, hA71]) (Nat.le_refl r) (LG_halt (Nat.le_refl _) v2 ho)
/-- LOOP -/
theorem loop_case {c0 : Nat → Int} {q : Nat} {A0 B0 A B : AM} {g s r m u R : Nat} (hq : q = 23 ∨ q = 34) (hR : A0 45 2 = (R : Int)) (h60 : R ≤ 60) (hrm : r < m) (hmR : m < R) (hs : s < 30) (hy : ystep c0 45 A0 s r) (h7 : c0 (85 + 9 * s) = 7) (e21 : A0 46 m = 21) (e51m : A0 51 m = (r : Int)) (hu : c0 (93 + 9 * s) = (u : Int))
    (body : ∀ A B, LR c0 q A0 B0 A B → B 0 35 = 0 → ∃ B', fc_X11_doAll g ((s + 1 : Nat) : Int) (u : Int) B = some B' ∧ LG c0 q A0 B0 A (r + 1) (r + 1) m 0 B') (hL : LR c0 q A0 B0 A B) (h0 : B 0 35 = 0) (h3 : A 69 0 < 300) :
    ∃ B2, fo_X11_doOne (fc_X11_doAll g) (s : Int) B = some B2 ∧ LG c0 q A0 B0 A r r (m + 1) 0 B2 := by
  have hL1 := LR_tick hq hL h3
  have y45 : A 45 = A0 45 := LX_years hq hL.2.2.2.2.2.2.1 (by omega) (by omega)
  have y46 : A 46 = A0 46 := LX_years hq hL.2.2.2.2.2.2.1 (by omega) (by omega)
  have e20 : A0 46 r = 20 := by rw [show A0 46 r = ykind (c0 (85 + 9 * s)) from (ystep_kind hy).2.2, h7]; rfl
  have d1 := hL.2.2.2.1
  have hA71 : am_upd A 69 0 (A 69 0 + 1) 71 = A 71 := am_upd_cell (by decide)
  have hA69 : am_upd A 69 0 (A 69 0 + 1) 69 0 = A 69 0 + 1 := am_upd_self _ _ _ _
  have hB35 : am_upd B 0 37 (B 0 37 + 1) 0 35 = 0 := by rw [am_upd_ne (by omega)]; exact h0
  have turn : ∀ {r' : Int} {N : AM}, f_X3_doStep q (r : Int) (am_upd A 69 0 (A 69 0 + 1)) = some (r', N) → ∀ n t : Nat, t + 1 < 1000000 → f_X3_lead_24 (n + 1) q (r : Int) (t : Int) A = f_X3_lead_24 n q r' ((t + 1 : Nat) : Int) N :=
    fun e n t ht => lead_turn (R := R) (by omega) (by rw [y45]; exact hR) (by omega) h60 (by rw [y46, e20]; decide) h3 d1.2.1 e
  rw [doOne_in hs (by omega)]
  generalize am_upd A 69 0 (A 69 0 + 1) = A1 at *
  generalize am_upd B 0 37 (B 0 37 + 1) = B1 at *
  have z46 : A1 46 = A0 46 := LX_years hq hL1.2.2.2.2.2.2.1 (by omega) (by omega)
  have z50 : A1 50 = A0 50 := LX_years hq hL1.2.2.2.2.2.2.1 (by omega) (by omega)
  have ek : B1 5 (85 + 9 * s) = 7 := by rw [hL1.1.2.2 _ (by omega) (by omega), h7]
  obtain ⟨t1, t2, t3⟩ := ystep_loop hy h7
  replace t1 : A0 50 r = c0 (86 + 9 * s) := t1
  obtain ⟨v, hv⟩ : ∃ v : Nat, c0 (86 + 9 * s) = (v : Int) := ⟨(c0 (86 + 9 * s)).toNat, by omega⟩
  have st := step_loop (q := q) (r := r) (A := A1) (by omega) (by rw [z46, e20])
  rw [z50, t1, hv] at st
  obtain ⟨B3, v1, v2⟩ := run_loop (v := v) hq hR h60 (by omega) (by omega) hs e21 e51m e20 hv (by omega) hu body v 0 (am_upd A1 71 r (v : Int)) B1 (by omega) (by omega) (LR_71 hq _ _ hL1) hB35 (am_upd_self _ _ _ _)
  have e69 : am_upd A1 71 r (v : Int) 69 = A1 69 := am_upd_cell (by decide)
  refine ⟨B3, ?_, LG_pre (k1 := 1) (y := v) (turn st) (by rw [e69]; omega) (fun j hj => by rw [am_upd_ne (by omega), hA71]) (Nat.le_refl _) v2⟩
  rw [ek, if_pos (by decide), if_pos (by decide)]
  unfold f_X11_doOne_110
  rw [if_neg (by decide)]
  exact v1 zB (by unfold zB; omega)
/-- three hundred STEPS were come to -/
theorem full_case {c0 : Nat → Int} {q : Nat} {A0 B0 A B : AM} {s r r2 R : Nat} (h : Int → Int → AM → Option AM) (hq : q = 23 ∨ q = 34) (hR : A0 45 2 = (R : Int)) (h60 : R ≤ 60) (hr : r < R) (hk : ¬ A0 46 r = 21) (hL : LR c0 q A0 B0 A B) (h3 : ¬ A 69 0 < 300) :
    ∃ B2, fo_X11_doOne h (s : Int) B = some B2 ∧ ¬ B2 0 35 = 0 ∧ LG c0 q A0 B0 A r r r2 0 B2 := by
  have y45 : A 45 = A0 45 := LX_years hq hL.2.2.2.2.2.2.1 (by omega) (by omega)
  have y46 : A 46 = A0 46 := LX_years hq hL.2.2.2.2.2.2.1 (by omega) (by omega)
  have d1 := hL.2.2.2.1
  have hE := LR_full hq (LR_over hL 1)
  have ho : ¬ am_upd (am_upd B 0 35 1) 0 42 1 0 35 = 0 := by rw [am_upd_ne (by omega), am_upd_self]; decide
  have e69 : am_upd A 70 4 1 69 = A 69 := am_upd_cell (by decide)
  refine ⟨_, ?_, ho, am_upd A 70 4 1, 0, hE, by rw [e69]; omega, Or.inr ⟨ho, fun n t ht => lead_full (R := R) (by omega) (by rw [y45]; exact hR) hr h60 (by rw [y46]; exact hk) h3⟩⟩
  unfold fo_X11_doOne
  rw [if_neg (by omega), zlet_eq, zlet_eq]
