/-! DAY, and DAYS ahead -/
theorem cp_at {f g : Nat → Int} {n k : Nat} (h : k < n) : cp_row f g 0 0 n k = f k := by
  unfold cp_row
  rw [if_pos ⟨Nat.zero_le _, by omega⟩]
  congr 1
  omega
/-- one House copied to another one -/
theorem x_copyFrom {c : Nat → Int} {q b : Nat} {M : AM} (hqb : b + 10 < q ∨ q + 10 < b) (hI : Ic c) (hR : Rh c b M) : ∃ N, f_X1_copyFrom q b M = some N ∧ Rh c q N ∧ (∀ i, i < 24 → N (q + 9) i = M (b + 9) i) ∧ (∀ a, a < q ∨ q + 10 < a → N a = M a) := by
  have h1 := hI.2.1
  have h2 := hI.2.2.1
  have h0 := hI.1
  obtain ⟨hg, hz⟩ := Rh_iff.mp hR
  have h6 : M b 6 = 0 ∨ M b 6 = 1 := by rw [hg.1.2.2.2.2.2.2]; exact hI.2.2.2.2.2.2.1
  have h19 : M b 19 = 0 ∨ M b 19 = 1 := by
    rcases hz with h | h
    · exact Or.inl h
    · exact Or.inr h.1
  unfold f_X1_copyFrom
  simp (disch := omega) only [zlet_eq, am_upd_cell, am_row_ne, tn0, tn10, tn6, tn24, tn64]
  rw [if_pos h6, if_pos h19]
  refine ⟨_, rfl, Rh_iff.mpr ⟨⟨⟨?_, ?_, ?_, ?_, ?_, ?_, ?_⟩, fun w hw => ⟨?_, ?_, ?_⟩, fun k hk => ⟨?_, ?_, ?_, ?_, ?_⟩, ?_, ?_⟩, ?_⟩, fun i hi => ?_, fun a ha => ?_⟩
  · simp (disch := omega) only [am_row_ne, am_upd_ne, am_upd_self]; exact hg.1.1
  · simp (disch := omega) only [am_row_ne, am_upd_ne, am_upd_self]; exact hg.1.2.1
  · simp (disch := omega) only [am_row_ne, am_upd_ne, am_upd_self]; exact hg.1.2.2.1
  · simp (disch := omega) only [am_row_ne, am_upd_ne, am_upd_self]; exact hg.1.2.2.2.1
  · simp (disch := omega) only [am_row_ne, am_upd_ne, am_upd_self]; exact hg.1.2.2.2.2.1
  · simp (disch := omega) only [am_row_ne, am_upd_ne, am_upd_self]; exact hg.1.2.2.2.2.2.1
  · simp (disch := omega) only [am_row_ne, am_upd_ne, am_upd_self]; exact hg.1.2.2.2.2.2.2
  · simp (disch := omega) only [am_row_ne, am_row_self, cp_at]; exact (hg.2.1 w hw).1
  · simp (disch := omega) only [am_row_ne, am_row_self, cp_at]; exact (hg.2.1 w hw).2.1
  · simp (disch := omega) only [am_row_ne, am_row_self, cp_at]; exact (hg.2.1 w hw).2.2
  · simp (disch := omega) only [am_row_ne, am_row_self, cp_at]; exact (hg.2.2.1 k hk).1
  · simp (disch := omega) only [am_row_ne, am_row_self, cp_at]; exact (hg.2.2.1 k hk).2.1
  · simp (disch := omega) only [am_row_ne, am_row_self, cp_at]; exact (hg.2.2.1 k hk).2.2.1
  · simp (disch := omega) only [am_row_ne, am_row_self, cp_at]; exact (hg.2.2.1 k hk).2.2.2.1
  · simp (disch := omega) only [am_row_ne, am_row_self, cp_at]; exact (hg.2.2.1 k hk).2.2.2.2
  · simp (disch := omega) only [am_row_ne, am_upd_ne, am_upd_self]; exact hg.2.2.2.1
  · simp (disch := omega) only [am_row_ne, am_upd_ne, am_upd_self]; exact hg.2.2.2.2
  · unfold Rz at hz ⊢
    simp (disch := omega) only [am_row_ne, am_upd_self, am_row_self]
    rcases hz with hz | ⟨hz, hl⟩
    · exact Or.inl hz
    · refine Or.inr ⟨hz, fun x y hx hy => ?_⟩
      rw [cp_at (by omega)]
      exact hl x y hx hy
  · simp (disch := omega) only [am_row_ne, am_row_self, cp_at]
  · simp (disch := omega) only [am_row_ne, am_upd_cell]
theorem part_lost {c : Nat → Int} {k : Nat} (hk : (k : Int) < c 2) (h6 : k < 6) : partB c k = lostB c 1 k := by
  have e : dayF c (65 + k) = dayK c k 1 (c (65 + k)) := dayF_k (r := 1) hk h6 (by omega)
  unfold partB lostB
  show _ = decide (¬ c (65 + k) = 0 ∧ dayF c (65 + k) = 0)
  rw [e]
  unfold dayK
  by_cases g : c (65 + k) = 0
  · simp [g]
  · simp only [g, if_false, show ¬ (1 : Nat) = 0 by decide, if_true, not_false_eq_true, true_and]
    by_cases g2 : nlove c k ≤ 0
    · simp [g2]
    · simp [g2, g]
theorem lost0 (c : Nat → Int) (n : Nat) : setB (lostB c 0) n = 0 := by
  have e : setB (lostB c 0) n = setB (fun _ => false) n := setB_congr _ (fun k _ => by
    show decide (¬ c (65 + k) = 0 ∧ c (65 + k) = 0) = false
    by_cases g : c (65 + k) = 0 <;> simp [g])
  rw [e]
  clear e
  induction n with
  | zero => rfl
  | succ n ih => unfold setB; rw [ih]; simp
theorem lost_step {c : Nat → Int} (hI : Ic c) (t : Nat) : o_or ((setB (lostB c t) (c 2).toNat : Nat) : Int) ((dayS (dayN c t) : Nat) : Int) = ((setB (lostB c (t + 1)) (c 2).toNat : Nat) : Int) := by
  have h2 := hI.2.2.1
  have e2 : dayN c t 2 = c 2 := dayN_lo (by decide) (by omega) t
  unfold dayS
  rw [e2, o_or_setB _ _ (by omega)]
  refine congrArg (fun x : Nat => (x : Int)) (setB_congr _ (fun k hk => ?_))
  show (lostB c t k || partB (dayN c t) k) = _
  rw [part_lost (by rw [e2]; omega) (by omega), lost_add h2.2 (by omega)]
theorem Qm_day {M N : AM} (h : Eo [5, 9, 10] M N) : Qm M N := Qm_Eo h (by intro a ha; simp at ha; unfold mcell; omega)
theorem a_day (a1 : Int) : Alike (f_X10_day a1) (f_X11_day a1) := by
  refine alike_h (fun c => if (1 ≤ a1 ∧ a1 ≤ 99) ∧ c 5 + a1 ≤ 9999 then ((setB (lostB c a1.toNat) (c 2).toNat : Nat) : Int) else -1) (fun c => if 1 ≤ a1 ∧ a1 ≤ 99 then (if c 5 + a1 ≤ 9999 then 0 else 7) else 5) (fun c => if (1 ≤ a1 ∧ a1 ≤ 99) ∧ c 5 + a1 ≤ 9999 then dayN c a1.toNat else c) ?_ ?_ ?_
  · intro c M hI h9 hR
    have h5 := hI.2.2.2.2.2.1
    have e5 : M 23 5 = c 5 := hR.1.2.2.2.2.2.1
    unfold f_X10_day f_X10_day_11
    by_cases g1 : 1 ≤ a1 ∧ a1 ≤ 99
    · rw [if_neg (by omega), if_pos g1.2, o_add_eq (by omega) (by omega)]
      by_cases g2 : c 5 + a1 ≤ 9999
      · have g3 : (1 ≤ a1 ∧ a1 ≤ 99) ∧ c 5 + a1 ≤ 9999 := ⟨g1, g2⟩
        obtain ⟨n, rfl⟩ : ∃ n : Nat, a1 = (n : Int) := ⟨a1.toNat, by omega⟩
        simp only [if_pos g1, if_pos g2, if_pos g3, tnc]
        obtain ⟨⟨v, N⟩, e, h1, hN, hE⟩ := x_pass (d := 61) (q := 23) (by decide) hI (many := n) (by omega) hR
        replace h1 : v = _ := h1
        rw [if_pos (by omega), e, bind_s, x_answer, bind_s, ← h1]
        exact x_end ⟨fun a ha => hE a (by rintro rfl; exact ha (by unfold xcell; omega)) (by rintro rfl; exact ha (by unfold xcell; omega)) (by rintro rfl; exact ha (by unfold xcell; omega)) (by rintro rfl; exact ha (by unfold xcell; omega)) (by rintro rfl; exact ha (by unfold xcell; omega)) (by rintro rfl; exact ha (by unfold xcell; omega)) (by rintro rfl; exact ha (by unfold xcell; omega)), fun j _ => by rw [hE 15 (by decide) (by decide) (by decide) (by decide) (by decide) (by decide) (by decide)]⟩ hN
      · have g3 : ¬ ((1 ≤ a1 ∧ a1 ≤ 99) ∧ c 5 + a1 ≤ 9999) := fun h => g2 h.2
        simp only [if_pos g1, if_neg g2, if_neg g3]
        rw [if_neg (by omega), x_fail, bind_s]
        exact x_end (Qx_refl M) hR
    · have g3 : ¬ ((1 ≤ a1 ∧ a1 ≤ 99) ∧ c 5 + a1 ≤ 9999) := fun h => g1 h.1
      simp only [if_neg g1, if_neg g3, x_fail, bind_s]
      by_cases g4 : a1 < 1
      · rw [if_pos g4]; exact x_end (Qx_refl M) hR
      · rw [if_neg g4, if_neg (by omega)]; exact x_end (Qx_refl M) hR
  · intro P hI h9
    obtain ⟨M2, hM2, e5, q2, s2, hc, hf⟩ := MS_ok P
    rw [← e5] at hI h9
    have h5 := hI.2.2.2.2.2.1
    unfold f_X11_day
    rw [zlet_eq, zlet_eq, hM2, ← e5]
    by_cases g1 : 1 ≤ a1 ∧ a1 ≤ 99
    · rw [isin_t g1, bind_s]
      simp only [if_pos g1, i10, not_false_eq_true, if_true, tn5]
      rw [o_add_eq (by omega) (by omega)]
      by_cases g2 : M2 5 5 + a1 ≤ 9999
      · have g3 : (1 ≤ a1 ∧ a1 ≤ 99) ∧ M2 5 5 + a1 ≤ 9999 := ⟨g1, g2⟩
        obtain ⟨n, rfl⟩ : ∃ n : Nat, a1 = (n : Int) := ⟨a1.toNat, by omega⟩
        simp only [if_pos g2, if_pos g3, tnc]
        have hw : Wp (f_X11_day_53 zB (n : Int) 0 0 M2) (fun r => r.1 = ((setB (lostB (M2 5) n) (M2 5 2).toNat : Nat) : Int) ∧ r.2 5 = dayN (M2 5) n ∧ Eo [5, 9, 10] M2 r.2) := by
          refine up_loopP0 (fun m i (s : Int × AM) => f_X11_day_53 m (n : Int) s.1 (i : Int) s.2) (fun i s => s.1 = ((setB (lostB (M2 5) i) (M2 5 2).toNat : Nat) : Int) ∧ s.2 5 = dayN (M2 5) i ∧ Eo [5, 9, 10] M2 s.2) _ n (0, M2) ⟨by rw [lost0]; rfl, rfl, Eo_refl _ _⟩ ?_ ?_ (by omega)
          · rintro m i ⟨s, N⟩ hi ⟨h1, h2, h3⟩
            replace h1 : s = _ := h1
            replace h2 : N 5 = dayN (M2 5) i := h2
            left
            show ∃ s2 : Int × AM, _ ∧ f_X11_day_53 (m + 1) (n : Int) s (i : Int) N = _
            simp only [f_X11_day_53]
            have hIN : Ic (N 5) := by rw [h2]; exact Ic_dayN hI i (by omega)
            obtain ⟨N2, e, e52, hE⟩ := m_goesDay hIN
            rw [if_neg (by omega), e, bind_s, o_succ (by omega)]
            refine ⟨(o_or s ((dayS (N 5) : Nat) : Int), N2), ⟨?_, ?_, Eo_trans h3 hE⟩, rfl⟩
            · show o_or s _ = _
              rw [h1, h2]; exact lost_step hI i
            · show N2 5 = _
              rw [e52, h2]; rfl
          · rintro m ⟨s, N⟩ ⟨h1, h2, h3⟩
            show Wp (f_X11_day_53 (m + 1) (n : Int) s (n : Int) N) _
            simp only [f_X11_day_53]
            rw [if_pos (by omega)]
            exact wp_some ⟨h1, h2, h3⟩
        obtain ⟨⟨v, N⟩, e, h1, h2, h3⟩ := hw
        replace h1 : v = _ := h1
        rw [e, h1]
        have h30 : N 0 = M2 0 := h3 0 (by simp)
        exact m_fin (Qm_trans q2 (Qm_day h3)) h2 (by rw [h30]; exact s2)
      · have g3 : ¬ ((1 ≤ a1 ∧ a1 ≤ 99) ∧ M2 5 5 + a1 ≤ 9999) := fun h => g2 h.2
        simp only [if_neg g2, if_neg g3, m_refuse, bind_s]
        exact m_end q2 rfl
    · have g3 : ¬ ((1 ≤ a1 ∧ a1 ≤ 99) ∧ M2 5 5 + a1 ≤ 9999) := fun h => g1 h.1
      rw [isin_f g1, bind_s]
      simp only [if_neg g1, if_neg g3, i00, not_true_eq_false, if_false, m_refuse, bind_s]
      exact m_end q2 rfl
  · intro c hI h9
    by_cases g : (1 ≤ a1 ∧ a1 ≤ 99) ∧ c 5 + a1 ≤ 9999
    · simp only [if_pos g]
      exact ⟨Ic_dayN hI _ (by omega), by rw [dayN_5]; omega, ⟨dayN_lo (by decide) (by omega) _, dayN_lo (by decide) (by omega) _, dayN_lo (by decide) (by omega) _⟩, fun k hk => dayN_lo (by omega) (by omega) _⟩
    · simp only [if_neg g]
      exact keep_c hI h9
/-! the model puts a HOUSE aside and takes it back -/
theorem m_puts (M : AM) : f_X11_puts M = some (am_row M 6 (fun j => if j < 83 then M 5 j else M 6 j)) := by
  unfold f_X11_puts
  refine up_loop0 (fun n i s => f_X11_puts_2 n (i : Int) s) (fun i => am_row M 6 (fun j => if j < i then M 5 j else M 6 j)) 83 _ M ?_ ?_ ?_ (by omega)
  · exact am_row_id _ _ _ (by funext j; simp)
  · intro n i hi
    simp only [f_X11_puts_2, tnc]
    rw [if_neg (by omega), if_pos (by omega), if_pos (by omega), zlet_eq, am_row_ne (by decide), o_succ (by omega), am_row_upd]
    congr 2
    funext b
    by_cases h1 : b = i
    · subst h1; rw [if_pos rfl, if_pos (by omega)]
    · by_cases h2 : b < i
      · rw [if_neg h1, if_pos h2, if_pos (by omega)]
      · rw [if_neg h1, if_neg h2, if_neg (by omega)]
  · intro n
    simp only [f_X11_puts_2]
    rw [if_pos (by omega)]
theorem m_gives (M : AM) : f_X11_gives M = some (am_row M 5 (fun j => if j < 83 then M 6 j else M 5 j)) := by
  unfold f_X11_gives
  refine up_loop0 (fun n i s => f_X11_gives_2 n (i : Int) s) (fun i => am_row M 5 (fun j => if j < i then M 6 j else M 5 j)) 83 _ M ?_ ?_ ?_ (by omega)
  · exact am_row_id _ _ _ (by funext j; simp)
  · intro n i hi
    simp only [f_X11_gives_2, tnc]
    rw [if_neg (by omega), if_pos (by omega), if_pos (by omega), zlet_eq, am_row_ne (by decide), o_succ (by omega), am_row_upd]
    congr 2
    funext b
    by_cases h1 : b = i
    · subst h1; rw [if_pos rfl, if_pos (by omega)]
    · by_cases h2 : b < i
      · rw [if_neg h1, if_pos h2, if_pos (by omega)]
      · rw [if_neg h1, if_neg h2, if_neg (by omega)]
  · intro n
    simp only [f_X11_gives_2]
    rw [if_pos (by omega)]
/-- aside: cell 6 keeps c -/
def Aside (c : Nat → Int) (M : AM) : Prop := ∀ j, j < 83 → M 6 j = c j
theorem m_puts' (M : AM) : ∃ N, f_X11_puts M = some N ∧ Aside (M 5) N ∧ N 5 = M 5 ∧ Eo [6] M N := by
  refine ⟨_, m_puts M, fun j hj => ?_, am_row_ne (by decide), Eo_row _ (by simp) (Eo_refl _ _)⟩
  rw [am_row_self, if_pos hj]
theorem m_gives' {c : Nat → Int} {M : AM} (h : Aside c M) (hhi : ∀ j, 83 ≤ j → M 5 j = c j) : ∃ N, f_X11_gives M = some N ∧ N 5 = c ∧ Eo [5] M N := by
  refine ⟨_, m_gives M, ?_, Eo_row _ (by simp) (Eo_refl _ _)⟩
  rw [am_row_self]
  funext j
  split
  · rename_i g; exact h j g
  · rename_i g; exact hhi j (by omega)
/-- so many DAYS go by in the model -/
theorem Eo5_hi {c : Nat → Int} {t j : Nat} (h : 83 ≤ j) : dayN c t j = c j := dayN_lo (by omega) (by omega) t
theorem Qx_DE34 {M N : AM} (h : DE 61 34 M N) : Qx M N :=
  ⟨fun a ha => h a (by rintro rfl; exact ha (by unfold xcell; omega)) (by rintro rfl; exact ha (by unfold xcell; omega)) (by rintro rfl; exact ha (by unfold xcell; omega)) (by rintro rfl; exact ha (by unfold xcell; omega)) (by rintro rfl; exact ha (by unfold xcell; omega)) (by rintro rfl; exact ha (by unfold xcell; omega)) (by rintro rfl; exact ha (by unfold xcell; omega)), fun j _ => by rw [h 15 (by decide) (by decide) (by decide) (by decide) (by decide) (by decide) (by decide)]⟩
theorem Rh_DE34 {c : Nat → Int} {M N : AM} (h : DE 61 34 M N) (hR : Rh c 23 M) : Rh c 23 N := Rh_cong (fun i hi => h _ (by omega) (by omega) (by omega) (by omega) (by omega) (by omega) (by omega)) hR
theorem Qx_copy {M N : AM} (h : ∀ a, a < 34 ∨ 34 + 10 < a → N a = M a) : Qx M N :=
  ⟨fun a ha => h a (by unfold xcell at ha; omega), fun j _ => by rw [h 15 (by decide)]⟩
theorem Rh_copy {c : Nat → Int} {M N : AM} (h : ∀ a, a < 34 ∨ 34 + 10 < a → N a = M a) (hR : Rh c 23 M) : Rh c 23 N := Rh_cong (fun i hi => h _ (by omega)) hR
theorem x_lookAhead {c : Nat → Int} {M : AM} (hI : Ic c) (hR : Rh c 23 M) {n : Nat} (h5 : c 5 + (n : Int) ≤ 20000) : ∃ N, f_X10_lookAhead (n : Int) M = some N ∧ Rh (dayN c n) 34 N ∧ Rh c 23 N ∧ Qx M N := by
  unfold f_X10_lookAhead
  obtain ⟨N1, e1, h1, _, hE1⟩ := x_copyFrom (q := 34) (b := 23) (by omega) hI hR
  rw [e1, bind_s]
  obtain ⟨⟨v, N⟩, e, hv, hN, hE⟩ := x_pass (d := 61) (q := 34) (by decide) hI (many := n) h5 h1
  rw [e, bind_s]
  exact ⟨N, rfl, hN, Rh_DE34 hE (Rh_copy hE1 hR), Qx_trans (Qx_copy hE1) (Qx_DE34 hE)⟩
theorem Eo69_Qm {M N : AM} (h : Eo [5, 6, 9, 10] M N) : Qm M N := Qm_Eo h (by intro a ha; simp at ha; unfold mcell; omega)
theorem a_loveIn (a1 a2 : Int) : Alike (f_X10_loveIn a1 a2) (f_X11_loveIn a1 a2) := by
  refine alike_q (fun c => if 0 ≤ a1 ∧ a1 < c 2 then (if 0 ≤ a2 ∧ a2 ≤ 300 then dayN c a2.toNat (59 + a1.toNat) else -1) else -1) (fun c => if 0 ≤ a1 ∧ a1 < c 2 then (if 0 ≤ a2 ∧ a2 ≤ 300 then 0 else 5) else 2) ?_ ?_
  · intro c M hI h9 hR
    have h2 := hI.2.2.1
    have hg := (Rh_iff.mp hR).1
    unfold f_X10_loveIn f_X10_loveIn_28
    by_cases g1 : 0 ≤ a1 ∧ a1 < c 2
    · obtain ⟨k, rfl⟩ : ∃ w : Nat, a1 = (w : Int) := ⟨a1.toNat, by omega⟩
      rw [xcoup_t hg g1, bind_s]
      simp only [if_pos g1, i10, not_false_eq_true, if_true, tnc]
      by_cases g2 : 0 ≤ a2 ∧ a2 ≤ 300
      · obtain ⟨n, rfl⟩ : ∃ w : Nat, a2 = (w : Int) := ⟨a2.toNat, by omega⟩
        simp only [if_pos g2, tnc]
        obtain ⟨N, e, h34, h23, hq⟩ := x_lookAhead hI hR (n := n) (by omega)
        have e2 : dayN c n 2 = c 2 := dayN_lo (by decide) (by omega) n
        have ev : N 40 k = dayN c n (59 + k) := ((Rh_iff.mp h34).1.2.2.1 k (by rw [e2]; exact g1.2)).2.2.1
        rw [if_neg (by omega), if_pos g2.2, e, bind_s, if_pos (by omega), x_answer, bind_s, ev]
        exact x_end hq h23
      · simp only [if_neg g2, x_fail, bind_s]
        by_cases g4 : a2 < 0
        · rw [if_pos g4]; exact x_end (Qx_refl M) hR
        · rw [if_neg g4, if_neg (by omega)]; exact x_end (Qx_refl M) hR
    · rw [xcoup_f hg g1, bind_s]
      simp only [if_neg g1, i00, not_true_eq_false, if_false, x_fail, bind_s]
      exact x_end (Qx_refl M) hR
  · intro P hI h9
    obtain ⟨M2, hM2, e5, q2, s2, hc, hf⟩ := MS_ok P
    rw [← e5] at hI h9
    have h2 := hI.2.2.1
    unfold f_X11_loveIn
    rw [zlet_eq, zlet_eq, hM2, ← e5]
    by_cases g1 : 0 ≤ a1 ∧ a1 < M2 5 2
    · obtain ⟨k, rfl⟩ : ∃ w : Nat, a1 = (w : Int) := ⟨a1.toNat, by omega⟩
      rw [mcoup_t hI g1, bind_s]
      simp only [if_pos g1, i10, not_false_eq_true, if_true, tnc]
      unfold f_X11_isAhead
      by_cases g2 : 0 ≤ a2 ∧ a2 ≤ 300
      · obtain ⟨n, rfl⟩ : ∃ w : Nat, a2 = (w : Int) := ⟨a2.toNat, by omega⟩
        rw [isin_t g2, bind_s, if_pos (Or.inr rfl), bind_s]
        simp only [if_pos g2, i10, not_false_eq_true, if_true, tnc]
        obtain ⟨M3, e3, hA, h35, hE3⟩ := m_puts' M2
        rw [e3, bind_s]
        have hw : Wp (f_X11_loveIn_43 zB (k : Int) (n : Int) 0 M3) (fun r => r.1 = dayN (M2 5) n (59 + k) ∧ r.2 5 = M2 5 ∧ Eo [5, 6, 9, 10] M2 r.2) := by
          refine up_loopP0 (fun m i (s : AM) => f_X11_loveIn_43 m (k : Int) (n : Int) (i : Int) s) (fun i s => Aside (M2 5) s ∧ s 5 = dayN (M2 5) i ∧ Eo [5, 6, 9, 10] M2 s) _ n M3 ⟨hA, h35, Eo_sub hE3 (by simp)⟩ ?_ ?_ (by omega)
          · rintro m i N hi ⟨h1, h2, h3⟩
            left
            show ∃ s2 : AM, _ ∧ f_X11_loveIn_43 (m + 1) (k : Int) (n : Int) (i : Int) N = _
            simp only [f_X11_loveIn_43]
            have hIN : Ic (N 5) := by rw [h2]; exact Ic_dayN hI i (by omega)
            obtain ⟨N2, e, e52, hE⟩ := m_goesDay hIN
            rw [if_neg (by omega), e, bind_s, o_succ (by omega)]
            refine ⟨N2, ⟨fun j hj => by rw [hE 6 (by simp)]; exact h1 j hj, by rw [e52, h2]; rfl, Eo_trans h3 (Eo_sub hE (by simp))⟩, rfl⟩
          · rintro m N ⟨h1, h2, h3⟩
            show Wp (f_X11_loveIn_43 (m + 1) (k : Int) (n : Int) (n : Int) N) _
            simp only [f_X11_loveIn_43]
            obtain ⟨N2, e, e52, hE⟩ := m_gives' h1 (fun j hj => by rw [h2]; exact Eo5_hi hj)
            simp (disch := omega) only [o_add_eq (x := 59), tp59]
            rw [if_pos (by omega), if_pos (by omega), e, bind_s]
            refine wp_some ⟨?_, e52, Eo_trans h3 (Eo_sub hE (by simp))⟩
            show N 5 (59 + k) = _
            rw [h2]
        obtain ⟨⟨v, N⟩, e, h1, h2, h3⟩ := hw
        replace h1 : v = _ := h1
        rw [e, h1]
        have h30 : N 0 = M2 0 := h3 0 (by simp)
        exact m_fin (Qm_trans q2 (Eo69_Qm h3)) h2 (by rw [h30]; exact s2)
      · rw [isin_f g2, bind_s, if_pos (Or.inl rfl), bind_s]
        simp only [if_neg g2, i00, not_true_eq_false, if_false, m_refuse, bind_s]
        exact m_end q2 rfl
    · rw [mcoup_f hI g1, bind_s]
      simp only [if_neg g1, i00, not_true_eq_false, if_false, m_refuse, bind_s]
      exact m_end q2 rfl
theorem a_holdIn (a1 : Int) : Alike (f_X10_holdIn a1) (f_X11_holdIn a1) := by
  refine alike_q (fun c => if 0 ≤ a1 ∧ a1 ≤ 300 then ((holdsN (dayN c a1.toNat) : Nat) : Int) else -1) (fun c => if 0 ≤ a1 ∧ a1 ≤ 300 then 0 else 5) ?_ ?_
  · intro c M hI h9 hR
    unfold f_X10_holdIn f_X10_holdIn_11
    by_cases g2 : 0 ≤ a1 ∧ a1 ≤ 300
    · obtain ⟨n, rfl⟩ : ∃ w : Nat, a1 = (w : Int) := ⟨a1.toNat, by omega⟩
      simp only [if_pos g2, tnc]
      obtain ⟨N, e, h34, h23, hq⟩ := x_lookAhead hI hR (n := n) (by omega)
      rw [if_neg (by omega), if_pos g2.2, e, bind_s, x_answer, bind_s, x_holds (Rh_iff.mp h34).1]
      exact x_end hq h23
    · simp only [if_neg g2, x_fail, bind_s]
      by_cases g4 : a1 < 0
      · rw [if_pos g4]; exact x_end (Qx_refl M) hR
      · rw [if_neg g4, if_neg (by omega)]; exact x_end (Qx_refl M) hR
  · intro P hI h9
    obtain ⟨M2, hM2, e5, q2, s2, hc, hf⟩ := MS_ok P
    rw [← e5] at hI h9
    unfold f_X11_holdIn f_X11_isAhead
    rw [zlet_eq, zlet_eq, hM2, ← e5]
    by_cases g2 : 0 ≤ a1 ∧ a1 ≤ 300
    · obtain ⟨n, rfl⟩ : ∃ w : Nat, a1 = (w : Int) := ⟨a1.toNat, by omega⟩
      rw [isin_t g2, bind_s, if_pos (Or.inr rfl), bind_s]
      simp only [if_pos g2, i10, not_false_eq_true, if_true, tnc]
      obtain ⟨M3, e3, hA, h35, hE3⟩ := m_puts' M2
      rw [e3, bind_s]
      have hw : Wp (f_X11_holdIn_29 zB (n : Int) 0 M3) (fun r => r.1 = ((holdsN (dayN (M2 5) n) : Nat) : Int) ∧ r.2 5 = M2 5 ∧ Eo [5, 6, 9, 10] M2 r.2) := by
        refine up_loopP0 (fun m i (s : AM) => f_X11_holdIn_29 m (n : Int) (i : Int) s) (fun i s => Aside (M2 5) s ∧ s 5 = dayN (M2 5) i ∧ Eo [5, 6, 9, 10] M2 s) _ n M3 ⟨hA, h35, Eo_sub hE3 (by simp)⟩ ?_ ?_ (by omega)
        · rintro m i N hi ⟨h1, h2, h3⟩
          left
          show ∃ s2 : AM, _ ∧ f_X11_holdIn_29 (m + 1) (n : Int) (i : Int) N = _
          simp only [f_X11_holdIn_29]
          have hIN : Ic (N 5) := by rw [h2]; exact Ic_dayN hI i (by omega)
          obtain ⟨N2, e, e52, hE⟩ := m_goesDay hIN
          rw [if_neg (by omega), e, bind_s, o_succ (by omega)]
          refine ⟨N2, ⟨fun j hj => by rw [hE 6 (by simp)]; exact h1 j hj, by rw [e52, h2]; rfl, Eo_trans h3 (Eo_sub hE (by simp))⟩, rfl⟩
        · rintro m N ⟨h1, h2, h3⟩
          show Wp (f_X11_holdIn_29 (m + 1) (n : Int) (n : Int) N) _
          simp only [f_X11_holdIn_29]
          have hIN : Ic (N 5) := by rw [h2]; exact Ic_dayN hI n (by omega)
          obtain ⟨N2, e, e52, hE⟩ := m_gives' h1 (fun j hj => by rw [h2]; exact Eo5_hi hj)
          rw [if_pos (by omega), tn2, m_holds hIN, bind_s]
          dsimp only
          rw [e, bind_s]
          refine wp_some ⟨?_, e52, Eo_trans h3 (Eo_sub hE (by simp))⟩
          show ((holdsN (N 5) : Nat) : Int) = _
          rw [h2]
      obtain ⟨⟨v, N⟩, e, h1, h2, h3⟩ := hw
      replace h1 : v = _ := h1
      rw [e, h1]
      have h30 : N 0 = M2 0 := h3 0 (by simp)
      exact m_fin (Qm_trans q2 (Eo69_Qm h3)) h2 (by rw [h30]; exact s2)
    · rw [isin_f g2, bind_s, if_pos (Or.inl rfl), bind_s]
      simp only [if_neg g2, i00, not_true_eq_false, if_false, m_refuse, bind_s]
      exact m_end q2 rfl
