/-! MARK, BACK -/
/-- the model's copy of a block -/
def cp5 (f : Nat → Int) (a b i : Nat) : Nat → Int := fun j => if 355 * b ≤ j ∧ j < 355 * b + i then f (355 * a + (j - 355 * b)) else f j
def cp8 (f : Nat → Int) (a b i : Nat) : Nat → Int := fun j => if 24 * b ≤ j ∧ j < 24 * b + i then f (24 * a + (j - 24 * b)) else f j
theorem m_copy {K : AM} {a b : Nat} (ha : a < 5) (hb : b < 5) (hne : a ≠ b) : f_X11_copy (a : Int) (b : Int) K = some (am_row (am_row K 5 (cp5 (K 5) a b 355)) 8 (cp8 (K 8) a b 24)) := by
  have e2 : ∀ Z : AM, f_X11_copy_41 zB (a : Int) (b : Int) 0 Z = some (am_row Z 8 (cp8 (Z 8) a b 24)) := by
    intro Z
    refine up_loop0 (fun n i (s : AM) => f_X11_copy_41 n (a : Int) (b : Int) (i : Int) s) (fun i => am_row Z 8 (cp8 (Z 8) a b i)) 24 _ Z ?_ ?_ ?_ (by omega)
    · exact am_row_id _ _ _ (by funext j; unfold cp8; rw [if_neg (by omega)])
    · intro n i hi
      simp only [f_X11_copy_41]
      rw [if_neg (by omega), o_mul_eq (x := 24) (y := (a : Int)) (by omega) (by omega), o_mul_eq (x := 24) (y := (b : Int)) (by omega) (by omega), o_add_eq (x := 24 * (a : Int)) (by omega) (by omega), o_add_eq (x := 24 * (b : Int)) (by omega) (by omega), if_pos (by omega), if_pos (by omega), zlet_eq, o_succ (by omega), show (24 * (a : Int) + (i : Int)).toNat = 24 * a + i by omega, show (24 * (b : Int) + (i : Int)).toNat = 24 * b + i by omega, am_row_self, am_row_upd]
      congr 1
      congr 1
      funext j
      unfold cp8
      by_cases h1 : j = 24 * b + i
      · subst h1
        rw [if_pos rfl, if_neg (by omega), if_pos (by omega), show 24 * b + i - 24 * b = i by omega]
      · rw [if_neg h1]
        by_cases h2 : 24 * b ≤ j ∧ j < 24 * b + i
        · rw [if_pos h2, if_pos (by omega)]
        · rw [if_neg h2, if_neg (by omega)]
    · intro n
      simp only [f_X11_copy_41]
      rw [if_pos (by omega)]
  unfold f_X11_copy
  refine up_loop0 (fun n i (s : AM) => f_X11_copy_2 n (a : Int) (b : Int) (i : Int) s) (fun i => am_row K 5 (cp5 (K 5) a b i)) 355 _ K ?_ ?_ ?_ (by omega)
  · exact am_row_id _ _ _ (by funext j; unfold cp5; rw [if_neg (by omega)])
  · intro n i hi
    simp only [f_X11_copy_2]
    rw [if_neg (by omega), o_mul_eq (x := 355) (y := (a : Int)) (by omega) (by omega), o_mul_eq (x := 355) (y := (b : Int)) (by omega) (by omega), o_add_eq (x := 355 * (a : Int)) (by omega) (by omega), o_add_eq (x := 355 * (b : Int)) (by omega) (by omega), if_pos (by omega), if_pos (by omega), zlet_eq, o_succ (by omega), show (355 * (a : Int) + (i : Int)).toNat = 355 * a + i by omega, show (355 * (b : Int) + (i : Int)).toNat = 355 * b + i by omega, am_row_self, am_row_upd]
    congr 1
    congr 1
    funext j
    unfold cp5
    by_cases h1 : j = 355 * b + i
    · subst h1
      rw [if_pos rfl, if_neg (by omega), if_pos (by omega), show 355 * b + i - 355 * b = i by omega]
    · rw [if_neg h1]
      by_cases h2 : 355 * b ≤ j ∧ j < 355 * b + i
      · rw [if_pos h2, if_pos (by omega)]
      · rw [if_neg h2, if_neg (by omega)]
  · intro n
    simp only [f_X11_copy_2]
    rw [if_pos (by omega), e2, am_row_ne (by decide)]
theorem cp5_blk {f : Nat → Int} {a b : Nat} : blk (cp5 f a b 355) b = blk f a := by
  funext k
  by_cases h : k < 355
  · rw [blk_at h, blk_at h]
    unfold cp5
    rw [if_pos (by omega), show 355 * b + k - 355 * b = k by omega]
  · unfold blk
    rw [if_neg h, if_neg h]
theorem cp5_ne {f : Nat → Int} {a b d k : Nat} (hd : d ≠ b) (hk : k < 355) : cp5 f a b 355 (355 * d + k) = f (355 * d + k) := by
  unfold cp5
  rw [if_neg (by omega)]
theorem cp8_ne {f : Nat → Int} {a b d k : Nat} (hd : d ≠ b) (hk : k < 24) : cp8 f a b 24 (24 * d + k) = f (24 * d + k) := by
  unfold cp8
  rw [if_neg (by omega)]
theorem cp8_eq {f : Nat → Int} {a b k : Nat} (hk : k < 24) : cp8 f a b 24 (24 * b + k) = f (24 * a + k) := by
  unfold cp8
  rw [if_pos (by omega), show 24 * b + k - 24 * b = k by omega]
/-! the class's YEARS -/
theorem tn60' : Int.toNat 60 = 60 := rfl
theorem ystep_mv {c : Nat → Int} {q q2 : Nat} {M N : AM} {s r : Nat} (hr : r < 60) (h : ∀ i j, 1 ≤ i → i ≤ 6 → j < 60 → N (q2 + i) j = M (q + i) j) (hR : ystep c q M s r) : ystep c q2 N s r := by
  unfold ystep at hR ⊢
  rw [h 1 r (by omega) (by omega) hr, h 2 r (by omega) (by omega) hr, h 3 r (by omega) (by omega) hr, h 4 r (by omega) (by omega) hr, h 5 r (by omega) (by omega) hr]
  exact hR
theorem yseq_mono {c : Nat → Int} {q : Nat} {M : AM} : ∀ (n d s e r r2 : Nat), yseq c q M n d s e r r2 → r ≤ r2 := by
  intro n
  induction n with
  | zero => intro d s e r r2 h; exact Nat.le_of_eq h.2
  | succ n ih =>
    intro d s e r r2 h
    rcases h with h | ⟨_, _, ⟨_, _, h⟩ | ⟨_, d', t, m, _, _, _, _, h1, _, _, _, h2⟩⟩
    · exact Nat.le_of_eq h.2
    · have := ih _ _ _ _ _ h; omega
    · have a1 := ih _ _ _ _ _ h1
      have a2 := ih _ _ _ _ _ h2
      omega
theorem yseq_mv {c : Nat → Int} {q q2 : Nat} {M N : AM} (h : ∀ i j, 1 ≤ i → i ≤ 6 → j < 60 → N (q2 + i) j = M (q + i) j) : ∀ (n d s e r r2 : Nat), r2 ≤ 60 → yseq c q M n d s e r r2 → yseq c q2 N n d s e r r2 := by
  intro n
  induction n with
  | zero => intro d s e r r2 _ hR; exact hR
  | succ n ih =>
    intro d s e r r2 hle hR
    rcases hR with hR | ⟨g1, g2, hR⟩
    · exact Or.inl hR
    · right
      rcases hR with ⟨a1, a2, a3⟩ | ⟨a1, d', t, m, b1, b2, b3, b4, b5, b6, b7, b8, b9⟩
      · have hm := yseq_mono _ _ _ _ _ _ a3
        exact ⟨g1, ystep_mv (by omega) h g2, Or.inl ⟨a1, a2, ih _ _ _ _ _ hle a3⟩⟩
      · have hm1 := yseq_mono _ _ _ _ _ _ b5
        have hm2 := yseq_mono _ _ _ _ _ _ b9
        refine ⟨g1, ystep_mv (by omega) h g2, Or.inr ⟨a1, d', t, m, b1, b2, b3, b4, ih _ _ _ _ _ (by omega) b5, ?_, ?_, ?_, ih _ _ _ _ _ hle b9⟩⟩
        · rw [h 1 m (by omega) (by omega) (by omega)]; exact b6
        · rw [h 6 m (by omega) (by omega) (by omega)]; exact b7
        · rw [h 6 r (by omega) (by omega) (by omega)]; exact b8
theorem Ry_mv {c : Nat → Int} {q q2 : Nat} {M N : AM} (h0 : ∀ j, j < 3 → N q2 j = M q j) (h : ∀ i j, 1 ≤ i → i ≤ 6 → j < 60 → N (q2 + i) j = M (q + i) j) (hR : Ry c q M) : Ry c q2 N := by
  unfold Ry at hR ⊢
  rw [h0 0 (by omega), h0 1 (by omega), h0 2 (by omega)]
  rcases hR with hR | ⟨a1, a2, a3, n, r, b1, b2, b3, b4, b5⟩
  · exact Or.inl hR
  · exact Or.inr ⟨a1, a2, a3, n, r, b1, b2, b3, b4, yseq_mv h _ _ _ _ _ _ b4 b5⟩
theorem x_copyYears {q b : Nat} {M : AM} (hqb : b + 10 < q ∨ q + 10 < b) (h0 : M b 0 = 0 ∨ M b 0 = 1) : ∃ N, f_X8_copyFrom q b M = some N ∧ (∀ j, j < 3 → N q j = M b j) ∧ (∀ i j, 1 ≤ i → i ≤ 6 → j < 60 → N (q + i) j = M (b + i) j) ∧ (∀ a, a < q ∨ q + 6 < a → N a = M a) := by
  unfold f_X8_copyFrom
  simp (disch := omega) only [zlet_eq, am_upd_cell, am_row_ne, tn0, tn60]
  rw [if_pos h0]
  refine ⟨_, rfl, fun j hj => ?_, fun i j h1 h6 hj => ?_, fun a ha => ?_⟩
  · simp (disch := omega) only [am_row_ne]
    simp only [am_upd_eq]
    rcases (by omega : j = 0 ∨ j = 1 ∨ j = 2) with rfl | rfl | rfl <;> simp
  · rcases (by omega : i = 1 ∨ i = 2 ∨ i = 3 ∨ i = 4 ∨ i = 5 ∨ i = 6) with rfl | rfl | rfl | rfl | rfl | rfl
    all_goals (simp (disch := omega) only [am_row_ne, am_row_self]; unfold cp_row; rw [if_pos (by omega)]; rw [show 0 + (j - 0) = j by omega])
  · simp (disch := omega) only [am_row_ne, am_upd_cell]
