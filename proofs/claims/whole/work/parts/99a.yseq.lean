/-! YEARS: rows and STEPS, put together -/
theorem yseq_fuel {c : Nat → Int} {q : Nat} {M : AM} : ∀ (n d s e r r2 : Nat), yseq c q M n d s e r r2 → yseq c q M (n + 1) d s e r r2 := by
  intro n
  induction n with
  | zero => intro d s e r r2 h; exact Or.inl h
  | succ n ih =>
    intro d s e r r2 h
    rcases h with h | ⟨g1, g2, ⟨a1, a2, a3⟩ | ⟨a1, d', t, m, b1, b2, b3, b4, b5, b6, b7, b8, b9⟩⟩
    · exact Or.inl h
    · exact Or.inr ⟨g1, g2, Or.inl ⟨a1, a2, ih _ _ _ _ _ a3⟩⟩
    · exact Or.inr ⟨g1, g2, Or.inr ⟨a1, d', t, m, b1, b2, b3, b4, ih _ _ _ _ _ b5, b6, b7, b8, ih _ _ _ _ _ b9⟩⟩
theorem yseq_up {c : Nat → Int} {q : Nat} {M : AM} {n d s e r r2 : Nat} : ∀ (m : Nat), yseq c q M n d s e r r2 → yseq c q M (n + m) d s e r r2
  | 0, h => h
  | m + 1, h => yseq_fuel _ _ _ _ _ _ (yseq_up m h)
theorem yseq_le {c : Nat → Int} {q : Nat} {M : AM} {n m d s e r r2 : Nat} (h : n ≤ m) (hy : yseq c q M n d s e r r2) : yseq c q M m d s e r r2 := by
  have := yseq_up (m - n) hy
  rwa [show n + (m - n) = m by omega] at this
theorem yseq_se {c : Nat → Int} {q : Nat} {M : AM} : ∀ (n d s e r r2 : Nat), yseq c q M n d s e r r2 → s ≤ e := by
  intro n
  induction n with
  | zero => intro d s e r r2 h; exact Nat.le_of_eq h.1
  | succ n ih =>
    intro d s e r r2 h
    rcases h with h | ⟨g1, _⟩
    · exact Nat.le_of_eq h.1
    · omega
theorem yseq_app {c : Nat → Int} {q : Nat} {M : AM} {k d e t r2 r3 : Nat} (h2 : yseq c q M k d e t r2 r3) : ∀ (n s r : Nat), yseq c q M n d s e r r2 → yseq c q M (n + k) d s t r r3 := by
  have het := yseq_se _ _ _ _ _ _ h2
  intro n
  induction n with
  | zero =>
    rintro s r ⟨rfl, rfl⟩
    rw [Nat.zero_add]
    exact h2
  | succ n ih =>
    intro s r h
    rw [show n + 1 + k = (n + k) + 1 by omega]
    rcases h with ⟨rfl, rfl⟩ | ⟨g1, g2, ⟨a1, a2, a3⟩ | ⟨a1, d', t', m, b1, b2, b3, b4, b5, b6, b7, b8, b9⟩⟩
    · exact yseq_le (by omega) h2
    · exact Or.inr ⟨by omega, g2, Or.inl ⟨a1, a2, ih _ _ a3⟩⟩
    · exact Or.inr ⟨by omega, g2, Or.inr ⟨a1, d', t', m, b1, b2, by omega, b4, yseq_le (by omega) b5, b6, b7, b8, ih _ _ b9⟩⟩
theorem ystep_loc {c c2 : Nat → Int} {q : Nat} {M N : AM} {s r : Nat} (h1 : c2 1 = c 1) (h2 : c2 2 = c 2) (hM : ∀ i, 1 ≤ i → i ≤ 6 → N (q + i) r = M (q + i) r) (hc : ∀ k, 85 + 9 * s ≤ k → k < 93 + 9 * s → c2 k = c k) (hR : ystep c q M s r) : ystep c2 q N s r := by
  unfold ystep at hR ⊢
  rw [h1, h2, hM 1 (by omega) (by omega), hM 2 (by omega) (by omega), hM 3 (by omega) (by omega), hM 4 (by omega) (by omega), hM 5 (by omega) (by omega), hc (85 + 9 * s) (by omega) (by omega), hc (86 + 9 * s) (by omega) (by omega), hc (90 + 9 * s) (by omega) (by omega), hc (91 + 9 * s) (by omega) (by omega), hc (92 + 9 * s) (by omega) (by omega)]
  exact hR
/-- a sequence looks at its own rows and STEPS alone -/
theorem yseq_loc {c c2 : Nat → Int} {q : Nat} {M N : AM} (h1 : c2 1 = c 1) (h2 : c2 2 = c 2) : ∀ (n d s e r r2 : Nat), (∀ i j, 1 ≤ i → i ≤ 6 → r ≤ j → j < r2 → N (q + i) j = M (q + i) j) → (∀ k, 85 + 9 * s ≤ k → k < 85 + 9 * e → c2 k = c k) → yseq c q M n d s e r r2 → yseq c2 q N n d s e r r2 := by
  intro n
  induction n with
  | zero => intro d s e r r2 _ _ h; exact h
  | succ n ih =>
    intro d s e r r2 hM hc h
    rcases h with h | ⟨g1, g2, ⟨a1, a2, a3⟩ | ⟨a1, d', t, m, b1, b2, b3, b4, b5, b6, b7, b8, b9⟩⟩
    · exact Or.inl h
    · have m1 := yseq_mono _ _ _ _ _ _ a3
      refine Or.inr ⟨g1, ystep_loc h1 h2 (fun i x y => hM i r x y (by omega) (by omega)) (fun k x y => hc k (by omega) (by omega)) g2, Or.inl ?_⟩
      rw [hc (85 + 9 * s) (by omega) (by omega), hc (93 + 9 * s) (by omega) (by omega)]
      exact ⟨a1, a2, ih _ _ _ _ _ (fun i j x y z w => hM i j x y (by omega) w) (fun k x y => hc k (by omega) y) a3⟩
    · have m1 := yseq_mono _ _ _ _ _ _ b5
      have m2 := yseq_mono _ _ _ _ _ _ b9
      refine Or.inr ⟨g1, ystep_loc h1 h2 (fun i x y => hM i r x y (by omega) (by omega)) (fun k x y => hc k (by omega) (by omega)) g2, Or.inr ?_⟩
      rw [hc (85 + 9 * s) (by omega) (by omega), hc (93 + 9 * s) (by omega) (by omega)]
      refine ⟨a1, d', t, m, b1, b2, b3, b4, ih _ _ _ _ _ (fun i j x y z w => hM i j x y (by omega) (by omega)) (fun k x y => hc k (by omega) (by omega)) b5, ?_, ?_, ?_, ih _ _ _ _ _ (fun i j x y z w => hM i j x y (by omega) w) (fun k x y => hc k (by omega) y) b9⟩
      · rw [hM 1 m (by omega) (by omega) (by omega) (by omega)]; exact b6
      · rw [hM 6 m (by omega) (by omega) (by omega) (by omega)]; exact b7
      · rw [hM 6 r (by omega) (by omega) (by omega) (by omega)]; exact b8
/-- the model's row as it will be -/
def cN (B : AM) : Nat → Int := fun k => if k < 83 then B 5 k else B 5 (1420 + k)
theorem cN_at {B : AM} {s j : Nat} : cN B (85 + 9 * s + j) = B 5 (1505 + 9 * s + j) := by
  unfold cN
  rw [if_neg (by omega), show 1420 + (85 + 9 * s + j) = 1505 + 9 * s + j by omega]
theorem cN_0 {B : AM} {s : Nat} : cN B (85 + 9 * s) = B 5 (1505 + 9 * s) := cN_at (j := 0)
theorem cN_1 {B : AM} {s : Nat} : cN B (86 + 9 * s) = B 5 (1506 + 9 * s) := by unfold cN; rw [if_neg (by omega), show 1420 + (86 + 9 * s) = 1506 + 9 * s by omega]
theorem cN_5 {B : AM} {s : Nat} : cN B (90 + 9 * s) = B 5 (1510 + 9 * s) := by unfold cN; rw [if_neg (by omega), show 1420 + (90 + 9 * s) = 1510 + 9 * s by omega]
theorem cN_6 {B : AM} {s : Nat} : cN B (91 + 9 * s) = B 5 (1511 + 9 * s) := by unfold cN; rw [if_neg (by omega), show 1420 + (91 + 9 * s) = 1511 + 9 * s by omega]
theorem cN_7 {B : AM} {s : Nat} : cN B (92 + 9 * s) = B 5 (1512 + 9 * s) := by unfold cN; rw [if_neg (by omega), show 1420 + (92 + 9 * s) = 1512 + 9 * s by omega]
theorem cN_8 {B : AM} {s : Nat} : cN B (93 + 9 * s) = B 5 (1513 + 9 * s) := by unfold cN; rw [if_neg (by omega), show 1420 + (93 + 9 * s) = 1513 + 9 * s by omega]
theorem cN_w {B : AM} : cN B 1 = B 5 1 := rfl
theorem cN_c {B : AM} : cN B 2 = B 5 2 := rfl
/-! the class's rows -/
theorem x_addRow {A : AM} {r : Nat} {K : Int} (h : A 53 2 = (r : Int)) (hr : r < 60) : ∃ A', f_X8_addRow 53 K A = some ((r : Int), A') ∧ (∀ x, x < 53 ∨ 59 < x → A' x = A x) ∧ (∀ x j, 54 ≤ x → x ≤ 59 → j ≠ r → A' x j = A x j) ∧ (∀ j, j ≠ 2 → A' 53 j = A 53 j) ∧ A' 53 2 = ((r + 1 : Nat) : Int) ∧ A' 54 r = K := by
  have k : ∀ (y i j : Nat) (u : Int) (M : AM), 53 ≠ y → am_upd M y i u 53 j = M 53 j := fun y i j u M h => by rw [am_upd_cell h]
  unfold f_X8_addRow
  simp only [zlet_eq, show 53 + 1 = 54 from rfl, show 53 + 2 = 55 from rfl, show 53 + 3 = 56 from rfl, show 53 + 4 = 57 from rfl, show 53 + 5 = 58 from rfl, show 53 + 6 = 59 from rfl, k 54 _ _ _ _ (by decide), k 55 _ _ _ _ (by decide), k 56 _ _ _ _ (by decide), k 57 _ _ _ _ (by decide), k 58 _ _ _ _ (by decide), k 59 _ _ _ _ (by decide), h, tnc, am_upd_self]
  rw [if_pos (by omega), if_pos (by omega), if_pos (by omega), if_pos (by omega), if_pos (by omega), if_pos (by omega), if_pos (by omega), o_succ (by omega), o_sub_eq (by omega) (by omega)]
  refine ⟨_, by rw [show ((r + 1 : Nat) : Int) - 1 = (r : Int) by omega], fun x hx => ?_, fun x j h1 h2 hj => ?_, fun j hj => ?_, ?_, ?_⟩
  · rw [am_upd_cell (by omega), am_upd_cell (by omega), am_upd_cell (by omega), am_upd_cell (by omega), am_upd_cell (by omega), am_upd_cell (by omega), am_upd_cell (by omega)]
  · rw [am_upd_cell (by omega), am_upd_ne (by omega), am_upd_ne (by omega), am_upd_ne (by omega), am_upd_ne (by omega), am_upd_ne (by omega), am_upd_ne (by omega)]
  · rw [am_upd_ne (by omega), am_upd_cell (by decide), am_upd_cell (by decide), am_upd_cell (by decide), am_upd_cell (by decide), am_upd_cell (by decide), am_upd_cell (by decide)]
  · rw [am_upd_self]
  · rw [am_upd_cell (by decide), am_upd_cell (by decide), am_upd_cell (by decide), am_upd_cell (by decide), am_upd_cell (by decide), am_upd_cell (by decide), am_upd_self]
theorem x_openRow {A : AM} {D r : Nat} (h : A 53 10 = (D : Int)) (hD : D < 3) : f_X8_openRow 53 (r : Int) A = some (am_upd (am_upd A 60 D (r : Int)) 53 10 ((D + 1 : Nat) : Int)) := by
  unfold f_X8_openRow
  rw [if_neg (by omega), if_pos (by omega), zlet_eq, zlet_eq, h, tnc, am_upd_cell (show 53 ≠ 53 + 7 by decide), h, o_succ (by omega)]
theorem x_closeRow {A : AM} {D m o : Nat} (h : A 53 10 = ((D + 1 : Nat) : Int)) (hD : D < 3) (ho : A 60 D = (o : Int)) (ho2 : o < 60) (hm : m < 60) : f_X8_closeRow 53 (m : Int) A = some (am_upd (am_upd (am_upd A 53 10 (D : Int)) 59 m (o : Int)) 59 o (m : Int)) := by
  unfold f_X8_closeRow
  simp only [zlet_eq, show 53 + 6 = 59 from rfl, show 53 + 7 = 60 from rfl]
  have e1 : o_sub (A 53 10) 1 = (D : Int) := by rw [h, o_sub_eq (by omega) (by omega)]; omega
  have e2 : ∀ i u, am_upd (am_upd A 53 10 (D : Int)) 59 i u 53 10 = (D : Int) := fun i u => by rw [am_upd_cell (by decide), am_upd_self]
  have e3 : am_upd A 53 10 (D : Int) 60 D = (o : Int) := by rw [am_upd_cell (by decide)]; exact ho
  have e4 : ∀ i u, am_upd (am_upd A 53 10 (D : Int)) 59 i u 60 D = (o : Int) := fun i u => by rw [am_upd_cell (by decide)]; exact e3
  rw [if_neg (by omega), e1]
  simp only [am_upd_self, tnc, e3, e2, e4]
  rw [if_pos (by omega), if_pos (by omega), if_pos (by omega), if_pos (by omega)]
