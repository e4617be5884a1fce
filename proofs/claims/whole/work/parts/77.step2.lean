/-! LIVE: the other plain STEPS of the class -/
theorem x_step1 {c : Nat → Int} {q r : Nat} {M : AM} (hI : Ic c) (hR : Rh c q M) (hq : q + 10 < 45) (hr : r < 60) (hT : T70 M) (hk : M 46 r = 12) :
    ∃ N, f_X3_doStep q (r : Int) M = some (((r + 1 : Nat) : Int), N) ∧ Rh (plC c (M 69 4) 1 0) q N ∧ N 69 4 = plZ c (M 69 4) 1 ∧ (∀ i, i < 4 → N 70 i = M 70 i + plT c (M 69 4) 1 0 i) ∧ (∀ j, 4 ≤ j → N 70 j = M 70 j) ∧ LX q M N ∧ (∀ j, j ≠ 4 → N 69 j = M 69 j) ∧ N 71 = M 71 := by
  obtain ⟨e, h2⟩ := x_damp hI hR (v := 1) (Or.inr rfl)
  unfold f_X3_doStep
  rw [if_pos (by omega)]
  simp only [tnc, hk]
  rw [if_neg (by decide), if_pos trivial, e, bind_s]
  dsimp only
  have ef : (if c 6 = 1 then (0 : Int) else 1) = if (!decide (c 6 = 1)) then 1 else 0 := by
    by_cases g : c 6 = 1
    · rw [if_pos g, decide_eq_true g]; rfl
    · rw [if_neg g, decide_eq_false g]; rfl
  have pc : ∀ x, x ≠ q → am_upd M q 6 1 x = M x := fun x h => am_upd_cell h
  rw [ef]
  refine x_stepEnd (c := c) (z := M 69 4) (k := 1) (a := 0) (c2 := cset c 6 1) hq hr (by rw [pc 70 (by omega)]) hT h2 rfl (by rw [pc 69 (by omega)]; rfl) (fun i hi => ?_) (fun j hj => by rw [pc 70 (by omega)]) (fun x x1 x2 x3 x4 x5 x6 x7 x8 x9 x10 => pc x x1) (fun j hj => by rw [pc 69 (by omega)]) (pc 71 (by omega)) _ rfl
  rw [pc 70 (by omega)]
  rcases hi with rfl | rfl | rfl <;> (show _ = _ + (0 : Int); omega)
theorem x_step2 {c : Nat → Int} {q r : Nat} {M : AM} (hI : Ic c) (hR : Rh c q M) (hq : q + 10 < 45) (hr : r < 60) (hT : T70 M) (hk : M 46 r = 13) :
    ∃ N, f_X3_doStep q (r : Int) M = some (((r + 1 : Nat) : Int), N) ∧ Rh (plC c (M 69 4) 2 0) q N ∧ N 69 4 = plZ c (M 69 4) 2 ∧ (∀ i, i < 4 → N 70 i = M 70 i + plT c (M 69 4) 2 0 i) ∧ (∀ j, 4 ≤ j → N 70 j = M 70 j) ∧ LX q M N ∧ (∀ j, j ≠ 4 → N 69 j = M 69 j) ∧ N 71 = M 71 := by
  obtain ⟨e, h2⟩ := x_damp hI hR (v := 0) (Or.inl rfl)
  unfold f_X3_doStep
  rw [if_pos (by omega)]
  simp only [tnc, hk]
  rw [if_neg (by decide), if_neg (by decide), if_pos trivial, e, bind_s]
  dsimp only
  have ef : (if c 6 = 0 then (0 : Int) else 1) = if (!decide (c 6 = 0)) then 1 else 0 := by
    by_cases g : c 6 = 0
    · rw [if_pos g, decide_eq_true g]; rfl
    · rw [if_neg g, decide_eq_false g]; rfl
  have pc : ∀ x, x ≠ q → am_upd M q 6 0 x = M x := fun x h => am_upd_cell h
  rw [ef]
  refine x_stepEnd (c := c) (z := M 69 4) (k := 2) (a := 0) (c2 := cset c 6 0) hq hr (by rw [pc 70 (by omega)]) hT h2 rfl (by rw [pc 69 (by omega)]; rfl) (fun i hi => ?_) (fun j hj => by rw [pc 70 (by omega)]) (fun x x1 x2 x3 x4 x5 x6 x7 x8 x9 x10 => pc x x1) (fun j hj => by rw [pc 69 (by omega)]) (pc 71 (by omega)) _ rfl
  rw [pc 70 (by omega)]
  rcases hi with rfl | rfl | rfl <;> (show _ = _ + (0 : Int); omega)
theorem x_step3 {c : Nat → Int} {q r w : Nat} {M : AM} (hI : Ic c) (hR : Rh c q M) (hq : q + 10 < 45) (hr : r < 60) (hw : (w : Int) < c 1) (hT : T70 M) (hk : M 46 r = 14) (h48 : M 48 r = (w : Int)) :
    ∃ N, f_X3_doStep q (r : Int) M = some (((r + 1 : Nat) : Int), N) ∧ Rh (plC c (M 69 4) 3 (w : Int)) q N ∧ N 69 4 = plZ c (M 69 4) 3 ∧ (∀ i, i < 4 → N 70 i = M 70 i + plT c (M 69 4) 3 (w : Int) i) ∧ (∀ j, 4 ≤ j → N 70 j = M 70 j) ∧ LX q M N ∧ (∀ j, j ≠ 4 → N 69 j = M 69 j) ∧ N 71 = M 71 := by
  obtain ⟨P, e, h2, hE⟩ := x_mendOne hI hR hw
  unfold f_X3_doStep
  rw [if_pos (by omega)]
  simp only [tnc, hk, h48]
  rw [if_neg (by decide), if_neg (by decide), if_neg (by decide), if_pos trivial, e, bind_s]
  dsimp only
  have pc : ∀ x, 45 ≤ x → P x = M x := fun x h => hE x (by omega) (by omega)
  refine x_stepEnd (c := c) (z := M 69 4) (k := 3) (a := (w : Int)) (c2 := mdC c w) hq hr (by rw [pc 70 (by omega)]) hT h2 rfl (by rw [pc 69 (by omega)]; rfl) (fun i hi => ?_) (fun j hj => by rw [pc 70 (by omega)]) (fun x x1 x2 x3 x4 x5 x6 x7 x8 x9 x10 => hE x x1 x2) (fun j hj => by rw [pc 69 (by omega)]) (pc 71 (by omega)) _ rfl
  rw [pc 70 (by omega)]
  rcases hi with rfl | rfl | rfl <;> (show _ = _ + (0 : Int); omega)
theorem x_step4 {c : Nat → Int} {q r w : Nat} {M : AM} (hI : Ic c) (hR : Rh c q M) (hq : q + 10 < 45) (hr : r < 60) (hw : (w : Int) < c 1) (hT : T70 M) (hk : M 46 r = 15) (h48 : M 48 r = (w : Int)) :
    ∃ N, f_X3_doStep q (r : Int) M = some (((r + 1 : Nat) : Int), N) ∧ Rh (plC c (M 69 4) 4 (w : Int)) q N ∧ N 69 4 = plZ c (M 69 4) 4 ∧ (∀ i, i < 4 → N 70 i = M 70 i + plT c (M 69 4) 4 (w : Int) i) ∧ (∀ j, 4 ≤ j → N 70 j = M 70 j) ∧ LX q M N ∧ (∀ j, j ≠ 4 → N 69 j = M 69 j) ∧ N 71 = M 71 := by
  have h3 := hT 3 (by decide)
  obtain ⟨P, e, h2, p3, hE, hj3⟩ := x_cutOne hI hR (by omega) hw (by omega)
  unfold f_X3_doStep
  rw [if_pos (by omega)]
  simp only [tnc, hk, h48]
  rw [if_neg (by decide), if_neg (by decide), if_neg (by decide), if_neg (by decide), if_pos trivial, e, bind_s]
  dsimp only
  have ef : (if c (37 + w) = 1 then (1 : Int) else 0) = if decide (c (37 + w) = 1) then 1 else 0 := by
    by_cases g : c (37 + w) = 1
    · rw [if_pos g, decide_eq_true g]; rfl
    · rw [if_neg g, decide_eq_false g]; rfl
  rw [ef]
  refine x_stepEnd (c := c) (z := M 69 4) (k := 4) (a := (w : Int)) (c2 := if c (37 + w) = 1 then cset c (37 + w) 0 else c) hq hr (hj3 0 (by decide)) hT h2 rfl (by rw [hE 69 (by omega) (by decide)]; rfl) (fun i hi => ?_) (fun j hj => hj3 j (by omega)) (fun x x1 x2 x3 x4 x5 x6 x7 x8 x9 x10 => hE x x1 x8) (fun j hj => by rw [hE 69 (by omega) (by decide)]) (hE 71 (by omega) (by decide)) _ rfl
  rcases hi with rfl | rfl | rfl
  · rw [hj3 1 (by decide)]; show _ = _ + (0 : Int); omega
  · rw [hj3 2 (by decide)]; show _ = _ + (0 : Int); omega
  · exact p3
