/-! LIVE: days that pass -/
theorem cnt_split {p a b : Nat → Bool} : ∀ n, (∀ k, k < n → p k = (a k || b k) ∧ (a k && b k) = false) → cntB p n = cntB a n + cntB b n
  | 0, _ => rfl
  | n + 1, h => by
    have ih := cnt_split n (fun k hk => h k (by omega))
    obtain ⟨h1, h2⟩ := h n (by omega)
    show cntB p n + (if p n then 1 else 0) = (cntB a n + (if a n then 1 else 0)) + (cntB b n + (if b n then 1 else 0))
    rw [ih, h1]
    cases ha : a n <;> cases hb : b n
    · simp
    · simp; omega
    · simp; omega
    · rw [ha, hb] at h2; cases h2
/-- those that part by day t -/
def lostC (c : Nat → Int) (t : Nat) : Nat := pc (setB (lostB c t) (c 2).toNat)
theorem lostC_0 (c : Nat → Int) : lostC c 0 = 0 := by unfold lostC; rw [lost0]; rfl
theorem lostC_succ {c : Nat → Int} (hI : Ic c) (t : Nat) : lostC c (t + 1) = lostC c t + pc (dayS (dayN c t)) := by
  have h2 := hI.2.2.1
  have e2 : dayN c t 2 = c 2 := dayN_lo (by decide) (by omega) t
  unfold lostC dayS
  rw [e2, pc_setB (by omega), pc_setB (by omega), pc_setB (by omega)]
  refine cnt_split _ (fun k hk => ⟨?_, ?_⟩)
  · have := lost_add (c := c) (t := 1) (s := t) (k := k) h2.2 (by omega)
    rw [part_lost (by rw [e2]; omega) (by omega)]
    exact this.symm
  · unfold lostB partB
    by_cases g : dayN c t (65 + k) = 0
    · rw [decide_eq_false (p := ¬ dayN c t (65 + k) = 0 ∧ nlove (dayN c t) k ≤ 0) (fun h => h.1 g), Bool.and_false]
    · rw [decide_eq_false (p := ¬ c (65 + k) = 0 ∧ dayN c t (65 + k) = 0) (fun h => g h.2), Bool.false_and]
theorem lostC_b (c : Nat → Int) (t : Nat) : lostC c t ≤ 10 := pc_le _
theorem m_anyDays {M : AM} (hI : Ic (M 5)) (h9 : M 5 5 ≤ 9999) {n : Nat} (hn : n ≤ 99) (h39 : 0 ≤ M 0 39 ∧ M 0 39 < 1000000) (h40 : 0 ≤ M 0 40 ∧ M 0 40 < 1000000) :
    Wp (f_X11_anyDays (n : Int) M) (fun r => if M 5 5 + (n : Int) ≤ 9999 then (r.1 = 1 ∧ r.2 5 = dayN (M 5) n ∧ r.2 0 39 = M 0 39 + (n : Int) ∧ r.2 0 40 = M 0 40 + ((lostC (M 5) n : Nat) : Int) ∧ (∀ x, x ≠ 0 → x ≠ 5 → x ≠ 9 → x ≠ 10 → r.2 x = M x) ∧ ∀ j, j ≠ 39 → j ≠ 40 → r.2 0 j = M 0 j) else r = (0, M)) := by
  have h5 := hI.2.2.2.2.2.1
  have hc2 := hI.2.2.1
  unfold f_X11_anyDays
  rw [tn5, o_add_eq (by omega) (by omega)]
  by_cases g : M 5 5 + (n : Int) ≤ 9999
  · simp only [if_pos g]
    refine up_loopP0 (fun m i (s : AM) => f_X11_anyDays_18 m (n : Int) (i : Int) s) (fun i s => s 5 = dayN (M 5) i ∧ s 0 40 = M 0 40 + ((lostC (M 5) i : Nat) : Int) ∧ (∀ x, x ≠ 0 → x ≠ 5 → x ≠ 9 → x ≠ 10 → s x = M x) ∧ ∀ j, j ≠ 40 → s 0 j = M 0 j) _ n M ⟨rfl, by rw [lostC_0]; simp, fun _ _ _ _ _ => rfl, fun _ _ => rfl⟩ ?_ ?_ (by omega)
    · rintro m i s hi ⟨a1, a2, a3, a4⟩
      have hIs : Ic (s 5) := by rw [a1]; exact Ic_dayN hI i (by omega)
      obtain ⟨N2, e, e52, hE⟩ := m_goesDay hIs
      have hS : dayS (s 5) < 1024 := by
        have e2 : s 5 2 = M 5 2 := by rw [a1]; exact dayN_lo (by decide) (by omega) i
        unfold dayS
        rw [e2]
        exact lt1024 (n := (M 5 2).toNat) (by omega) (setB_lt _ _)
      have hb := lostC_b (M 5) i
      have hb2 := pc_le (dayS (s 5))
      left
      simp only [f_X11_anyDays_18]
      rw [if_neg (by omega), e, bind_s]
      dsimp only
      rw [m_sizeOf' hS, bind_s, zlet_eq, a2, o_succ (by omega)]
      dsimp only
      rw [o_add_eq (by omega) (by omega)]
      refine ⟨_, ⟨?_, ?_, fun x h1 h2 h3 h4 => ?_, fun j hj => ?_⟩, rfl⟩
      · rw [am_upd_cell (by decide), e52, a1]; rfl
      · rw [am_upd_self, lostC_succ hI, a1]; omega
      · rw [am_upd_cell h1, hE x (by simp; omega)]; exact a3 x h1 h2 h3 h4
      · rw [am_upd_ne (fun h => hj h.2), hE 0 (by simp)]; exact a4 j hj
    · rintro m s ⟨a1, a2, a3, a4⟩
      simp only [f_X11_anyDays_18]
      rw [if_pos (by omega), zlet_eq, a4 39 (by decide), o_add_eq (by omega) (by omega)]
      refine wp_some ⟨rfl, ?_, ?_, ?_, fun x h1 h2 h3 h4 => ?_, fun j h1 h2 => ?_⟩
      · dsimp only
        rw [am_upd_cell (by decide)]; exact a1
      · dsimp only
        exact am_upd_self _ _ _ _
      · dsimp only
        rw [am_upd_ne (by omega)]; exact a2
      · dsimp only
        rw [am_upd_cell h1]; exact a3 x h1 h2 h3 h4
      · dsimp only
        rw [am_upd_ne (fun h => h1 h.2)]; exact a4 j h2
  · rw [if_neg g]
    refine wp_some ?_
    simp only [if_neg g]
