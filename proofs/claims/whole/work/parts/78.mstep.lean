/-! LIVE: a plain STEP of the model -/
def MP (M N : AM) (k a : Int) : Prop := N 5 = plC (M 5) (M 0 36) k a ∧ N 0 36 = plZ (M 5) (M 0 36) k ∧ N 0 39 = M 0 39 + plT (M 5) (M 0 36) k a 1 ∧ N 0 40 = M 0 40 + plT (M 5) (M 0 36) k a 2 ∧ N 0 41 = M 0 41 + plT (M 5) (M 0 36) k a 3 ∧ (∀ x, x ≠ 0 → x ≠ 5 → x ≠ 9 → x ≠ 10 → N x = M x) ∧ ∀ j, j ≠ 36 → j ≠ 39 → j ≠ 40 → j ≠ 41 → N 0 j = M 0 j
theorem m_plain {M : AM} (hI : Ic (M 5)) (h9 : M 5 5 ≤ 9999) {s : Nat} (hs : s < 30) {k a : Int} (hk : 0 ≤ k ∧ k ≤ 5) (ek : M 5 (85 + 9 * s) = k) (ea : (k = 0 ∨ k = 3 ∨ k = 4) → M 5 (85 + 9 * s + 1) = a) (h0 : k = 0 → 0 ≤ a ∧ a ≤ 99) (h34 : k = 3 ∨ k = 4 → 0 ≤ a ∧ a < M 5 1)
    (hz : 0 ≤ M 0 36 ∧ M 0 36 < 65536) (h39 : 0 ≤ M 0 39 ∧ M 0 39 < 1000000) (h40 : 0 ≤ M 0 40 ∧ M 0 40 < 1000000) (h41 : 0 ≤ M 0 41 ∧ M 0 41 < 1000000) :
    ∃ N, f_X11_does ((85 + 9 * s : Nat) : Int) M = some (if plF (M 5) (M 0 36) k a then 1 else 0, N) ∧ MP M N k a := by
  have hc1 := hI.2.1
  have d : ∀ j : Nat, j < 1775 → (0 : Int) ≤ (j : Int) ∧ (j : Int) < 1775 := fun j hj => ⟨by omega, by omega⟩
  have a1 : o_add ((85 + 9 * s : Nat) : Int) 1 = ((85 + 9 * s + 1 : Nat) : Int) := by rw [o_add_eq (by omega) (by omega)]; omega
  unfold f_X11_does
  rw [if_pos (d _ (by omega)), tnc, ek, a1, if_pos (d (85 + 9 * s + 1) (by omega)), tnc]
  have fin : ∀ (f : Bool) (N : AM), ((some ((if f then (1 : Int) else 0), N) : Option (Int × AM)).bind fun x => if x.1 = 0 ∨ x.1 = 1 then some (x.1, x.2) else none) = some (if f then 1 else 0, N) := by
    intro f N
    cases f <;> rfl
  rcases (by omega : k = 0 ∨ k = 1 ∨ k = 2 ∨ k = 3 ∨ k = 4 ∨ k = 5) with rfl | rfl | rfl | rfl | rfl | rfl
  · obtain ⟨n, rfl⟩ : ∃ n : Nat, a = (n : Int) := ⟨a.toNat, by have := h0 rfl; omega⟩
    have hn := h0 rfl
    obtain ⟨⟨v, N⟩, e, hr⟩ := m_anyDays hI h9 (n := n) (by omega) h39 h40
    rw [if_neg (fun h => h rfl), if_pos (d (85 + 9 * s + 1) (by omega)), ea (Or.inl rfl), e]
    by_cases g : M 5 5 + (n : Int) ≤ 9999
    · rw [if_pos g] at hr
      obtain ⟨r1, r2, r3, r4, r5, r6⟩ := hr
      dsimp only at r1 r2 r3 r4 r5 r6
      have hf : plF (M 5) (M 0 36) 0 (n : Int) = true := by unfold plF; rw [if_pos rfl]; exact decide_eq_true g
      rw [hf, r1, bind_s]
      dsimp only
      rw [if_pos (Or.inr rfl)]
      refine ⟨N, by simp only [if_true], ?_⟩
      unfold MP
      refine ⟨?_, ?_, ?_, ?_, ?_, r5, fun j j1 j2 j3 j4 => r6 j j2 j3⟩
      · rw [r2]; unfold plC; rw [if_pos rfl, if_pos g, tnc]
      · rw [r6 36 (by decide) (by decide)]; rfl
      · rw [r3]; unfold plT; rw [if_neg (by decide), if_pos rfl, if_pos rfl, if_pos g]
      · rw [r4]; unfold plT; rw [if_neg (by decide), if_neg (by decide), if_pos rfl, if_pos rfl, if_pos g, tnc]
      · rw [r6 41 (by decide) (by decide)]; show _ = _ + (0 : Int); omega
    · rw [if_neg g] at hr
      have hf : plF (M 5) (M 0 36) 0 (n : Int) = false := by unfold plF; rw [if_pos rfl]; exact decide_eq_false g
      rw [hf, hr, bind_s]
      dsimp only
      rw [if_pos (Or.inl rfl)]
      refine ⟨M, by simp only [Bool.false_eq_true, if_false], ?_⟩
      unfold MP
      refine ⟨?_, rfl, ?_, ?_, ?_, fun _ _ _ _ _ => rfl, fun _ _ _ _ _ => rfl⟩
      · unfold plC; rw [if_pos rfl, if_neg g]
      · unfold plT; rw [if_neg (by decide), if_pos rfl, if_pos rfl, if_neg g]; omega
      · unfold plT; rw [if_neg (by decide), if_neg (by decide), if_pos rfl, if_pos rfl, if_neg g]; omega
      · show _ = _ + (0 : Int); omega
  · rw [if_pos (by decide), if_pos (by decide), if_pos (by decide), if_pos (by decide), if_neg (fun h => h rfl), m_damp]
    by_cases g : M 5 6 = 1
    · have hf : plF (M 5) (M 0 36) 1 a = false := by show (!decide (M 5 6 = 1)) = false; rw [decide_eq_true g]; rfl
      rw [if_pos g, hf]
      refine ⟨M, rfl, (cset_same g).symm, rfl, ?_, ?_, ?_, fun _ _ _ _ _ => rfl, fun _ _ _ _ _ => rfl⟩ <;> (show _ = _ + (0 : Int); omega)
    · have hf : plF (M 5) (M 0 36) 1 a = true := by show (!decide (M 5 6 = 1)) = true; rw [decide_eq_false g]; rfl
      rw [if_neg g, hf]
      refine ⟨_, rfl, am5 _ _ _, ?_, ?_, ?_, ?_, fun x h0 h5 _ _ => am_upd_cell h5, fun j _ _ _ _ => by rw [am_upd_cell (by decide)]⟩
      · rw [am_upd_cell (by decide)]; rfl
      · rw [am_upd_cell (by decide)]; show _ = _ + (0 : Int); omega
      · rw [am_upd_cell (by decide)]; show _ = _ + (0 : Int); omega
      · rw [am_upd_cell (by decide)]; show _ = _ + (0 : Int); omega
  · rw [if_pos (by decide), if_pos (by decide), if_pos (by decide), if_pos (by decide), if_pos (by decide), m_damp]
    by_cases g : M 5 6 = 0
    · have hf : plF (M 5) (M 0 36) 2 a = false := by show (!decide (M 5 6 = 0)) = false; rw [decide_eq_true g]; rfl
      rw [if_pos g, hf]
      refine ⟨M, rfl, (cset_same g).symm, rfl, ?_, ?_, ?_, fun _ _ _ _ _ => rfl, fun _ _ _ _ _ => rfl⟩ <;> (show _ = _ + (0 : Int); omega)
    · have hf : plF (M 5) (M 0 36) 2 a = true := by show (!decide (M 5 6 = 0)) = true; rw [decide_eq_false g]; rfl
      rw [if_neg g, hf]
      refine ⟨_, rfl, am5 _ _ _, ?_, ?_, ?_, ?_, fun x h0 h5 _ _ => am_upd_cell h5, fun j _ _ _ _ => by rw [am_upd_cell (by decide)]⟩
      · rw [am_upd_cell (by decide)]; rfl
      · rw [am_upd_cell (by decide)]; show _ = _ + (0 : Int); omega
      · rw [am_upd_cell (by decide)]; show _ = _ + (0 : Int); omega
      · rw [am_upd_cell (by decide)]; show _ = _ + (0 : Int); omega
  · have ha := h34 (Or.inl rfl)
    obtain ⟨w, rfl⟩ : ∃ n : Nat, a = (n : Int) := ⟨a.toNat, by omega⟩
    obtain ⟨N, e, e5, hE⟩ := m_isMended hI (w := w) (by omega)
    rw [if_pos (by decide), if_neg (fun h => h rfl), if_pos (d (85 + 9 * s + 1) (by omega)), ea (by omega), e, fin]
    have hf : plF (M 5) (M 0 36) 3 (w : Int) = mdB (M 5) w := by unfold plF; rw [if_neg (by decide), if_neg (by decide), if_neg (by decide), if_pos rfl, tnc]
    rw [hf]
    refine ⟨N, Eq.refl _, ?_⟩
    unfold MP
    refine ⟨e5, ?_, ?_, ?_, ?_, fun x h0 h5 _ _ => hE x h5, fun j _ _ _ _ => by rw [hE 0 (by decide)]⟩
    · rw [hE 0 (by decide)]; rfl
    · rw [hE 0 (by decide)]; show _ = _ + (0 : Int); omega
    · rw [hE 0 (by decide)]; show _ = _ + (0 : Int); omega
    · rw [hE 0 (by decide)]; show _ = _ + (0 : Int); omega
  · have ha := h34 (Or.inr rfl)
    obtain ⟨w, rfl⟩ : ∃ n : Nat, a = (n : Int) := ⟨a.toNat, by omega⟩
    have hIw := (Ic_w hI (w := w) (by omega)).2.2.2
    rw [if_pos (by decide), if_pos (by decide), if_neg (fun h => h rfl), ea (by omega), m_isCut (by omega) h41]
    by_cases g : M 5 (37 + w) = 1
    · have n0 : ¬ M 5 (37 + w) = 0 := by omega
      have hf : plF (M 5) (M 0 36) 4 (w : Int) = true := decide_eq_true g
      rw [if_neg n0, if_neg n0, hf, bind_s]
      dsimp only
      rw [if_pos (Or.inr rfl)]
      refine ⟨_, rfl, ?_, ?_, ?_, ?_, ?_, fun x h0 h5 _ _ => by rw [am_upd_cell h0, am_upd_cell h5], fun j _ _ _ j4 => by rw [am_upd_ne (fun h => j4 h.2), am_upd_cell (by decide)]⟩
      · rw [am_upd_cell (by decide), am5]
        exact (if_pos g).symm
      · rw [am_upd_ne (by omega), am_upd_cell (by decide)]; rfl
      · rw [am_upd_ne (by omega), am_upd_cell (by decide)]; show _ = _ + (0 : Int); omega
      · rw [am_upd_ne (by omega), am_upd_cell (by decide)]; show _ = _ + (0 : Int); omega
      · rw [am_upd_self]
        have e3 : plT (M 5) (M 0 36) 4 (w : Int) 3 = 1 := if_pos g
        rw [e3]
    · have n0 : M 5 (37 + w) = 0 := hIw.resolve_right g
      have hf : plF (M 5) (M 0 36) 4 (w : Int) = false := decide_eq_false g
      rw [if_pos n0, if_pos n0, hf, bind_s]
      dsimp only
      rw [if_pos (Or.inl rfl)]
      have e3 : plT (M 5) (M 0 36) 4 (w : Int) 3 = 0 := if_neg g
      refine ⟨M, rfl, (if_neg g).symm, rfl, ?_, ?_, ?_, fun _ _ _ _ _ => rfl, fun _ _ _ _ _ => rfl⟩
      · show _ = _ + (0 : Int); omega
      · show _ = _ + (0 : Int); omega
      · rw [e3]; omega
  · obtain ⟨N, e, e5, e36, e41, hE, hj⟩ := m_any hI hz h41
    have ef : (if hitK (M 5) (M 0 36) = 0 then (0 : Int) else 1) = if plF (M 5) (M 0 36) 5 a then 1 else 0 := by
      show _ = if (!decide (hitK (M 5) (M 0 36) = 0)) = true then (1 : Int) else 0
      by_cases g : hitK (M 5) (M 0 36) = 0
      · rw [if_pos g, decide_eq_true g]; rfl
      · rw [if_neg g, decide_eq_false g]; rfl
    rw [if_pos (by decide), if_pos (by decide), if_pos (by decide), if_neg (fun h => h rfl), e, ef, fin]
    refine ⟨N, rfl, e5, e36, ?_, ?_, e41, fun x h0 h5 _ _ => hE x h0 h5, fun j j1 _ _ j4 => hj j j1 j4⟩
    · rw [hj 39 (by decide) (by decide)]; show _ = _ + (0 : Int); omega
    · rw [hj 40 (by decide) (by decide)]; show _ = _ + (0 : Int); omega
