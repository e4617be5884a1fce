/-! LIVE: one STEP -/
def sdN (z : Int) : Int := o_rem (o_add (o_mul z 2971) 10859) 65536
def sdV (z a : Int) : Int := o_rem (o_div z 8) a
theorem sdN_r {z : Int} (h : 0 ≤ z ∧ z < 65536) : 0 ≤ sdN z ∧ sdN z < 65536 := by
  unfold sdN
  rw [o_mul_eq (by omega) (by omega), o_add_eq (by omega) (by omega), o_rem_eq (by omega) (by omega) (by omega) (by omega)]
  omega
theorem sdV_r {z a : Int} (h : 0 ≤ z ∧ z < 65536) (ha : 1 ≤ a) (ha2 : a ≤ 100) : 0 ≤ sdV z a ∧ sdV z a < a := by
  unfold sdV
  rw [o_div_eq (by omega) (by omega) (by omega) (by omega), o_rem_eq (by omega) (by omega) (by omega) (by omega)]
  exact ⟨Int.emod_nonneg _ (by omega), Int.emod_lt_of_pos _ (by omega)⟩
theorem x_draw {M : AM} {a : Int} (ha : 1 ≤ a) : f_X3_drawBy a M = some (sdV (sdN (M 69 4)) a, am_upd M 69 4 (sdN (M 69 4))) := by
  unfold f_X3_drawBy
  rw [zlet_eq, if_neg (by omega), if_pos (by omega), am_upd_self]
  rfl
theorem m_draw {M : AM} {a : Int} (ha : 1 ≤ a) : f_X11_draw a M = some (sdV (sdN (M 0 36)) a, am_upd M 0 36 (sdN (M 0 36))) := by
  unfold f_X11_draw
  rw [zlet_eq, if_pos (by omega), am_upd_self]
  rfl
/-- what a blow does: 0 nothing, 1 looser, 2 cut -/
def hitW (c : Nat → Int) (z : Int) : Int := sdV (sdN z) (c 1)
def hitK (c : Nat → Int) (z : Int) : Nat :=
  if ¬ 1 ≤ c 1 then 0 else if c (37 + (hitW c z).toNat) = 1 then (if c 4 ≤ sdV (sdN (sdN z)) 16 then (if c (27 + (hitW c z).toNat) < 9 then 1 else 0) else 2) else 0
def hitC (c : Nat → Int) (z : Int) : Nat → Int :=
  if hitK c z = 1 then cset c (27 + (hitW c z).toNat) (c (27 + (hitW c z).toNat) + 1) else if hitK c z = 2 then cset c (37 + (hitW c z).toNat) 0 else c
def hitZ (c : Nat → Int) (z : Int) : Int := if 1 ≤ c 1 then sdN (sdN z) else z
theorem hitW_r {c : Nat → Int} {z : Int} (hI : Ic c) (hz : 0 ≤ z ∧ z < 65536) (h : 1 ≤ c 1) : 0 ≤ hitW c z ∧ hitW c z < c 1 := sdV_r (sdN_r hz) h (by have := hI.2.1; omega)
theorem Ic_hit {c : Nat → Int} {z : Int} (hI : Ic c) (hz : 0 ≤ z ∧ z < 65536) : Ic (hitC c z) := by
  unfold hitC
  by_cases h1 : hitK c z = 1
  · rw [if_pos h1]
    unfold hitK at h1
    by_cases g : 1 ≤ c 1
    · have hw := hitW_r hI hz g
      have hIw := Ic_w hI (w := (hitW c z).toNat) (by omega)
      have hc1 := hI.2.1
      rw [if_neg (fun h => h g)] at h1
      by_cases g2 : c (37 + (hitW c z).toNat) = 1
      · rw [if_pos g2] at h1
        by_cases g3 : c 4 ≤ sdV (sdN (sdN z)) 16
        · rw [if_pos g3] at h1
          by_cases g4 : c (27 + (hitW c z).toNat) < 9
          · exact Ic_slack hI (by omega) (by omega)
          · rw [if_neg g4] at h1; exact absurd h1 (by decide)
        · rw [if_neg g3] at h1; exact absurd h1 (by decide)
      · rw [if_neg g2] at h1; exact absurd h1 (by decide)
    · rw [if_pos g] at h1; exact absurd h1 (by decide)
  · rw [if_neg h1]
    by_cases h2 : hitK c z = 2
    · rw [if_pos h2]
      by_cases g : 1 ≤ c 1
      · have hw := hitW_r hI hz g
        have hc1 := hI.2.1
        exact Ic_whole hI (by omega) (Or.inl rfl)
      · unfold hitK at h2
        rw [if_pos g] at h2; exact absurd h2 (by decide)
    · rw [if_neg h2]; exact hI
theorem x_cutOne {c : Nat → Int} {q : Nat} {M : AM} (hI : Ic c) (hR : Rh c q M) (hq : q + 10 < 69) {w : Nat} (hw : (w : Int) < c 1) (h70 : 0 ≤ M 70 3 ∧ M 70 3 < 1000000) :
    ∃ N, f_X3_cutOne q (w : Int) M = some (if c (37 + w) = 1 then 1 else 0, N) ∧ Rh (if c (37 + w) = 1 then cset c (37 + w) 0 else c) q N ∧ N 70 3 = M 70 3 + (if c (37 + w) = 1 then 1 else 0) ∧ (∀ x, x ≠ q → x ≠ 70 → N x = M x) ∧ ∀ j, j ≠ 3 → N 70 j = M 70 j := by
  have hg := (Rh_iff.mp hR).1
  unfold f_X3_cutOne
  rw [xwire_t hg ⟨by omega, hw⟩, bind_s]
  simp only [i10, if_false]
  rw [x_isWhole (Ib_of hI) hg hw, bind_s]
  by_cases g : c (37 + w) = 1
  · simp only [if_pos g, i10, not_false_eq_true, if_true]
    obtain ⟨N, e, hN, hE⟩ := x_cutWire hI hR hw
    have e70 : N 70 = M 70 := hE 70 (by omega)
    rw [e, bind_s, zlet_eq, tn3, e70, o_add_eq (by omega) (by omega)]
    refine ⟨_, rfl, Rh_cong (fun i hi => am_upd_cell (by omega)) hN, am_upd_self _ _ _ _, fun x h1 h2 => ?_, fun j hj => ?_⟩
    · rw [am_upd_cell h2, hE x h1]
    · rw [am_upd_ne (fun h => hj h.2), e70]
  · simp only [if_neg g, not_true_eq_false, if_false]
    exact ⟨M, rfl, hR, by omega, fun _ _ _ => rfl, fun _ _ => rfl⟩
theorem x_hurt {c : Nat → Int} {q : Nat} {M : AM} (hI : Ic c) (hR : Rh c q M) (hq : q + 10 < 69) (hz : 0 ≤ M 69 4 ∧ M 69 4 < 65536) (h70 : 0 ≤ M 70 3 ∧ M 70 3 < 1000000) :
    ∃ N, f_X3_hurtAny q M = some (if hitK c (M 69 4) = 0 then 0 else 1, N) ∧ Rh (hitC c (M 69 4)) q N ∧ N 69 4 = hitZ c (M 69 4) ∧ N 70 3 = M 70 3 + (if hitK c (M 69 4) = 2 then 1 else 0) ∧ (∀ x, x ≠ q → x ≠ q + 3 → x ≠ 69 → x ≠ 70 → N x = M x) ∧ (∀ j, j ≠ 4 → N 69 j = M 69 j) ∧ ∀ j, j ≠ 3 → N 70 j = M 70 j := by
  have hg := (Rh_iff.mp hR).1
  have e3 : M q 3 = c 1 := hg.1.2.2.2.1
  have e1 : M q 1 = c 4 := hg.1.2.1
  have hc1 := hI.2.1
  unfold f_X3_hurtAny
  rw [e3]
  by_cases g : 1 ≤ c 1
  · have hw := hitW_r hI hz g
    obtain ⟨w, hwe⟩ : ∃ w : Nat, hitW c (M 69 4) = (w : Int) := ⟨(hitW c (M 69 4)).toNat, by omega⟩
    have hwl : (w : Int) < c 1 := by omega
    have hIw := Ic_w hI hwl
    rw [if_pos g, x_draw g, bind_s]
    dsimp only
    rw [x_draw (by decide), bind_s, am_upd_self]
    dsimp only
    have hwe2 : sdV (sdN (M 69 4)) (c 1) = (w : Int) := by rw [← hwe]; unfold hitW; rfl
    simp only [hwe2]
    rw [am_upd_cell (show ¬ q = 69 by omega)]
    rw [am_upd_cell (show ¬ q = 69 by omega)]
    rw [e1]
    have e69 : ∀ v u : Int, ∀ x, x ≠ 69 → am_upd (am_upd M 69 4 v) 69 4 u x = M x := fun v u x h => by rw [am_upd_cell h, am_upd_cell h]
    generalize hP : am_upd (am_upd M 69 4 (sdN (M 69 4))) 69 4 (sdN (sdN (M 69 4))) = P
    have pc : ∀ x, x ≠ 69 → P x = M x := fun x h => by rw [← hP]; exact e69 _ _ x h
    have p4 : P 69 4 = hitZ c (M 69 4) := by rw [← hP, am_upd_self]; unfold hitZ; rw [if_pos g]
    have pj : ∀ j, j ≠ 4 → P 69 j = M 69 j := fun j hj => by rw [← hP, am_upd_ne (fun h => hj h.2), am_upd_ne (fun h => hj h.2)]
    have hRP : Rh c q P := Rh_cong (fun i hi => pc _ (by omega)) hR
    have hgP := (Rh_iff.mp hRP).1
    have p70 : P 70 = M 70 := pc 70 (by decide)
    have hstay : hitK c (M 69 4) = 0 → ∃ N, (some ((0 : Int), P) : Option (Int × AM)) = some (if hitK c (M 69 4) = 0 then 0 else 1, N) ∧ Rh (hitC c (M 69 4)) q N ∧ N 69 4 = hitZ c (M 69 4) ∧ N 70 3 = M 70 3 + (if hitK c (M 69 4) = 2 then 1 else 0) ∧ (∀ x, x ≠ q → x ≠ q + 3 → x ≠ 69 → x ≠ 70 → N x = M x) ∧ (∀ j, j ≠ 4 → N 69 j = M 69 j) ∧ ∀ j, j ≠ 3 → N 70 j = M 70 j := by
      intro hk
      have hC : hitC c (M 69 4) = c := by unfold hitC; rw [hk]; rfl
      rw [hC, hk]
      exact ⟨P, rfl, hRP, p4, by rw [p70]; simp, fun x _ _ h _ => pc x h, pj, fun j _ => by rw [p70]⟩
    have hunf : hitK c (M 69 4) = if c (37 + w) = 1 then (if c 4 ≤ sdV (sdN (sdN (M 69 4))) 16 then (if c (27 + w) < 9 then 1 else 0) else 2) else 0 := by
      unfold hitK
      rw [if_neg (fun h => h g), hwe, tnc]
    unfold f_X3_hurtAny_37
    rw [x_isWhole (Ib_of hI) hgP hwl, bind_s]
    by_cases g1 : c (37 + w) = 1
    · rw [if_pos g1] at hunf
      simp only [if_pos g1, i10, not_false_eq_true, if_true, if_false]
      by_cases g2 : c 4 ≤ sdV (sdN (sdN (M 69 4))) 16
      · rw [if_pos g2] at hunf ⊢
        have e26 : P (q + 3) w = c (27 + w) := (hgP.2.1 w hwl).2.2
        rw [if_pos (by omega), tnc, e26]
        by_cases g3 : c (27 + w) < 9
        · rw [if_pos g3] at hunf ⊢
          rw [o_add_eq (by omega) (by omega)]
          obtain ⟨N, e, hN, hE⟩ := x_setSlack (Ib_of hI) hgP hwl (c (27 + w) + 1)
          have hC : hitC c (M 69 4) = cset c (27 + w) (c (27 + w) + 1) := by unfold hitC; rw [hunf, if_pos rfl, hwe, tnc]
          rw [e, bind_s, hC, hunf]
          refine ⟨N, rfl, hN, by rw [hE 69 (by omega) (by omega)]; exact p4, by rw [hE 70 (by omega) (by omega), p70]; simp, fun x h1 h2 h3 _ => by rw [hE x h1 h2]; exact pc x h3, fun j hj => by rw [hE 69 (by omega) (by omega)]; exact pj j hj, fun j _ => by rw [hE 70 (by omega) (by omega), p70]⟩
        · rw [if_neg g3] at hunf ⊢
          exact hstay hunf
      · rw [if_neg g2] at hunf ⊢
        simp only [bind_s, i10, not_false_eq_true, if_true, if_false]
        obtain ⟨N, e, hN, h3, hE, hj⟩ := x_cutOne hI hRP hq hwl (by rw [p70]; exact h70)
        simp only [if_pos g1] at e hN h3
        have hC : hitC c (M 69 4) = cset c (37 + w) 0 := by unfold hitC; rw [hunf, if_neg (by decide), if_pos rfl, hwe, tnc]
        rw [e, bind_s]
        simp only [or_true, if_true]
        rw [hC, hunf]
        refine ⟨N, rfl, hN, by rw [hE 69 (by omega) (by decide)]; exact p4, by rw [h3, p70]; rfl, fun x h1 _ h3 h4 => by rw [hE x h1 h4]; exact pc x h3, fun j hj => by rw [hE 69 (by omega) (by decide)]; exact pj j hj, fun j h => by rw [hj j h, p70]⟩
    · rw [if_neg g1] at hunf
      simp only [bind_s, if_neg g1, not_true_eq_false, if_false, ite_self]
      exact hstay hunf
  · have hk : hitK c (M 69 4) = 0 := by unfold hitK; rw [if_pos g]
    have hC : hitC c (M 69 4) = c := by unfold hitC; rw [hk]; rfl
    have hZ : hitZ c (M 69 4) = M 69 4 := by unfold hitZ; rw [if_neg g]
    rw [if_neg g, hC, hk, hZ]
    exact ⟨M, rfl, hR, rfl, by simp, fun _ _ _ _ _ => rfl, fun _ _ => rfl, fun _ _ => rfl⟩
