/-! LIVE: the tests -/
/-- a comparison by its sign -/
def cmpB (a o b : Int) : Bool := if o = 60 then decide (a < b) else if o = 62 then decide (b < a) else decide (a = b)
theorem x_compares (a o b : Int) (M : AM) : f_X3_compares a o b M = some (if cmpB a o b then 1 else 0, M) := by
  unfold f_X3_compares cmpB
  by_cases h1 : o = 60
  · rw [if_neg (fun h => h h1), if_pos h1]
    by_cases h : b ≤ a
    · rw [if_pos h, decide_eq_false (by omega)]; rfl
    · rw [if_neg h, decide_eq_true (by omega)]; rfl
  · rw [if_pos h1, if_neg h1]
    by_cases h2 : o = 62
    · rw [if_neg (fun h => h h2), if_pos h2]
      by_cases h : a ≤ b
      · rw [if_pos h, decide_eq_false (by omega)]; rfl
      · rw [if_neg h, decide_eq_true (by omega)]; rfl
    · rw [if_pos h2, if_neg h2]
      by_cases h : a = b
      · rw [if_neg (fun h2 => h2 h), decide_eq_true h]; rfl
      · rw [if_pos h, decide_eq_false h]; rfl
/-- what a WHEN asks: kind (0 rung, 1 love, else parted), couple, number, sign -/
def soB (c : Nat → Int) (t : Int) (k : Nat) (n o : Int) : Bool := if t = 0 then rungB c k else if t = 1 then cmpB (c (59 + k)) o n else !decide (c (65 + k) = 1)
theorem soB_0 (c : Nat → Int) (k : Nat) (n o : Int) : soB c 0 k n o = rungB c k := by unfold soB; rw [if_pos rfl]
theorem soB_1 (c : Nat → Int) (k : Nat) (n o : Int) : soB c 1 k n o = cmpB (c (59 + k)) o n := by unfold soB; rw [if_neg (by decide), if_pos rfl]
theorem soB_2 (c : Nat → Int) (k : Nat) (n o : Int) : soB c 2 k n o = !decide (c (65 + k) = 1) := by unfold soB; rw [if_neg (by decide), if_neg (by decide)]
theorem yt0 : ytest 0 = 18 := rfl
theorem yt1 : ytest 1 = 10 := rfl
theorem yt2 : ytest 2 = 19 := rfl
/-- WHEN in the class, row r of the YEARS -/
theorem x_isSo {c : Nat → Int} {q : Nat} {M : AM} (hI : Ic c) (hR : Rh c q M) {r k : Nat} (hr : r < 60) {t n o : Int} (ht : 0 ≤ t ∧ t ≤ 2) (e48 : M 48 r = (k : Int)) (hk : (k : Int) < c 2) (e47 : M 47 r = ytest t) (e49 : t = 1 → M 49 r = o ∧ M 50 r = n) (hq : q + 10 < 47 ∧ 22 < q) (hq2 : q = 23 ∨ q = 34) :
    ∃ N, f_X3_isSo q (r : Int) M = some (if soB c t k n o then 1 else 0, N) ∧ Hm c q M N := by
  have h2 := hI.2.2.1
  have hg := (Rh_iff.mp hR).1
  have e6 : M (q + 6) k = c (59 + k) := (hg.2.2.1 k hk).2.2.1
  unfold f_X3_isSo
  rw [if_pos (by omega), tnc, e48, xcoup_t hg ⟨by omega, hk⟩, bind_s]
  simp only [i10, not_false_eq_true, if_true, e47]
  rcases (by omega : t = 0 ∨ t = 1 ∨ t = 2) with rfl | rfl | rfl
  · obtain ⟨N, e, hN⟩ := x_isRung hI hR hk
    rw [soB_0, yt0, if_pos rfl, e, bind_s]
    refine ⟨N, ?_, hN⟩
    cases rungB c k <;> rfl
  · obtain ⟨a1, a2⟩ := e49 rfl
    rw [soB_1, yt1, if_neg (by decide), if_neg (by decide), if_pos (by omega), tnc, e6, a1, a2, x_compares, bind_s]
    refine ⟨M, ?_, Hm_refl hR⟩
    cases cmpB (c (59 + k)) o n <;> rfl
  · rw [soB_2, yt2, if_neg (by decide), if_pos rfl, x_isHolding (Ib_of hI) hg hk, bind_s]
    refine ⟨M, ?_, Hm_refl hR⟩
    by_cases g : c (65 + k) = 1
    · simp [g]
    · simp [g]
/-- WHEN in the model, STEP s -/
theorem m_isSo {M : AM} (hI : Ic (M 5)) {s k : Nat} (hs : s < 30) {t : Int} (ht : 0 ≤ t ∧ t ≤ 2) (e1 : M 5 (85 + 9 * s + 1) = (k : Int)) (hk : (k : Int) < M 5 2) (e5 : M 5 (85 + 9 * s + 5) = t) :
    ∃ N, f_X11_isSo ((85 + 9 * s : Nat) : Int) M = some (if soB (M 5) t k (M 5 (85 + 9 * s + 6)) (M 5 (85 + 9 * s + 7)) then 1 else 0, N) ∧ N 5 = M 5 ∧ Eo [9] M N := by
  have h2 := hI.2.2.1
  have a5 : o_add ((85 + 9 * s : Nat) : Int) 5 = ((85 + 9 * s + 5 : Nat) : Int) := by rw [o_add_eq (by omega) (by omega)]; omega
  have a1 : o_add ((85 + 9 * s : Nat) : Int) 1 = ((85 + 9 * s + 1 : Nat) : Int) := by rw [o_add_eq (by omega) (by omega)]; omega
  have a6 : o_add ((85 + 9 * s : Nat) : Int) 6 = ((85 + 9 * s + 6 : Nat) : Int) := by rw [o_add_eq (by omega) (by omega)]; omega
  have a7 : o_add ((85 + 9 * s : Nat) : Int) 7 = ((85 + 9 * s + 7 : Nat) : Int) := by rw [o_add_eq (by omega) (by omega)]; omega
  have a59 : o_add 59 (k : Int) = ((59 + k : Nat) : Int) := by rw [o_add_eq (by omega) (by omega)]; omega
  have a65 : o_add 65 (k : Int) = ((65 + k : Nat) : Int) := by rw [o_add_eq (by omega) (by omega)]; omega
  have d : ∀ j : Nat, j < 1775 → (0 : Int) ≤ (j : Int) ∧ (j : Int) < 1775 := fun j hj => ⟨by omega, by omega⟩
  unfold f_X11_isSo
  rw [a5, a1, a6, a7]
  simp only [if_pos (d (85 + 9 * s + 5) (by omega)), if_pos (d (85 + 9 * s + 1) (by omega)), if_pos (d (85 + 9 * s + 6) (by omega)), if_pos (d (85 + 9 * s + 7) (by omega)), tnc, e1, e5, a59, a65, if_pos (d (59 + k) (by omega)), if_pos (d (65 + k) (by omega))]
  rcases (by omega : t = 0 ∨ t = 1 ∨ t = 2) with rfl | rfl | rfl
  · have hr : rungN (M 5) < 1024 := lt1024 (n := (M 5 2).toNat) (by omega) (setB_lt _ _)
    rw [if_neg (fun h => h rfl), m_rung hI, bind_s]
    dsimp only
    rw [m_has hr (by omega), bind_s, rungN_bit hk, soB_0]
    refine ⟨LF M, ?_, LF5 M, LF_Eo M⟩
    cases rungB (M 5) k <;> rfl
  · rw [soB_1, if_pos (by decide), if_pos (by decide), zlet_eq]
    refine ⟨M, ?_, rfl, Eo_refl _ _⟩
    unfold cmpB
    by_cases h1 : M 5 (85 + 9 * s + 7) = 60
    · rw [if_neg (fun h => h h1), if_pos h1]
      by_cases h : M 5 (85 + 9 * s + 6) ≤ M 5 (59 + k)
      · rw [if_pos h, decide_eq_false (by omega)]; rfl
      · rw [if_neg h, decide_eq_true (by omega)]; rfl
    · rw [if_pos h1, if_neg h1]
      by_cases h2 : M 5 (85 + 9 * s + 7) = 62
      · rw [if_neg (fun h => h h2), if_pos h2]
        by_cases h : M 5 (59 + k) ≤ M 5 (85 + 9 * s + 6)
        · rw [if_pos h, decide_eq_false (by omega)]; rfl
        · rw [if_neg h, decide_eq_true (by omega)]; rfl
      · rw [if_pos h2, if_neg h2]
        by_cases h : M 5 (59 + k) = M 5 (85 + 9 * s + 6)
        · rw [if_neg (fun h2 => h2 h), decide_eq_true h]; rfl
        · rw [if_pos h, decide_eq_false h]; rfl
  · rw [soB_2, if_pos (by decide), if_neg (fun h => h rfl)]
    refine ⟨M, ?_, rfl, Eo_refl _ _⟩
    have h65 := (Ic_k hI hk).2.2.2.1
    by_cases g : M 5 (65 + k) = 1
    · have g0 : ¬ M 5 (65 + k) = 0 := by omega
      simp [g]
    · have g0 : M 5 (65 + k) = 0 := h65.resolve_right g
      simp [g0]
