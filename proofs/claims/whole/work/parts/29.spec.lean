/-! what is asked of a HOUSE, as plain functions of the model's row c; both programs answer so -/
def rungB (c : Nat → Int) (k : Nat) : Bool := decide (FD c (c (47 + k)) (c (53 + k)) ≤ c 3)
def rungN (c : Nat → Int) : Nat := setB (rungB c) (c 2).toNat
def rowB (c : Nat → Int) (row k : Nat) : Bool := decide (c (row + k) = 1)
def wholeN (c : Nat → Int) : Nat := setB (rowB c 37) (c 1).toNat
def holdsN (c : Nat → Int) : Nat := setB (rowB c 65) (c 2).toNat
def loveN (c : Nat → Int) : Int := rg (c 2).toNat (fun (s : Int) k => s + c (59 + k)) 0
def heardB (c : Nat → Int) (p : Int) (r : Nat) : Bool := decide (FD c p (r : Int) ≤ c 3)
def heardN (c : Nat → Int) (p : Int) : Nat := setB (heardB c p) (c 0).toNat
def stepA (c : Nat → Int) (k : Nat) (best : Int) (e : Nat) : Int :=
  if c (65 + e) = 0 then best else if FD c (c (47 + e)) (c (53 + k)) ≤ c 3 then
    (if best < 0 then (e : Int) else if FD c (c (47 + e)) (c (53 + k)) < FD c (c (47 + best.toNat)) (c (53 + k)) ∨ FD c (c (47 + e)) (c (53 + k)) = FD c (c (47 + best.toNat)) (c (53 + k)) ∧ e = k then (e : Int) else best) else best
/-- whom SHE of k answers -/
def ansF (c : Nat → Int) (k : Nat) : Int := rg (c 2).toNat (stepA c k) (-1)
theorem Ic_k {c : Nat → Int} (h : Ic c) {k : Nat} (hk : (k : Int) < c 2) : (0 ≤ c (47 + k) ∧ c (47 + k) < c 0) ∧ (0 ≤ c (53 + k) ∧ c (53 + k) < c 0) ∧ (0 ≤ c (59 + k) ∧ c (59 + k) ≤ 9) ∧ (c (65 + k) = 0 ∨ c (65 + k) = 1) ∧ (c (65 + k) = 1 → 1 ≤ c (59 + k)) ∧ (0 ≤ c (71 + k) ∧ c (71 + k) ≤ c 5) ∧ (0 ≤ c (77 + k) ∧ c (77 + k) ≤ c 5) := h.2.2.2.2.2.2.2.2 k hk
theorem FD_b {c : Nat → Int} (hI : Ic c) (x y : Int) : 0 ≤ FD c x y ∧ FD c x y ≤ 1000 := fD_b hI _ _
theorem ans_inv {c : Nat → Int} (k : Nat) : ∀ i : Nat, i ≤ (c 2).toNat → rg i (stepA c k) (-1) = -1 ∨ (0 ≤ rg i (stepA c k) (-1) ∧ rg i (stepA c k) (-1) < (i : Int) ∧ ¬ c (65 + (rg i (stepA c k) (-1)).toNat) = 0 ∧ FD c (c (47 + (rg i (stepA c k) (-1)).toNat)) (c (53 + k)) ≤ c 3) := by
  intro i
  induction i with
  | zero => intro _; left; rfl
  | succ i ih =>
    intro hi
    have ih := ih (by omega)
    rw [rg_succ]
    generalize rg i (stepA c k) (-1) = b at ih
    unfold stepA
    by_cases h1 : c (65 + i) = 0
    · rw [if_pos h1]
      rcases ih with h | h
      · exact Or.inl h
      · exact Or.inr ⟨h.1, by omega, h.2.2⟩
    · rw [if_neg h1]
      by_cases h2 : FD c (c (47 + i)) (c (53 + k)) ≤ c 3
      · rw [if_pos h2]
        have hnew : (i : Int) = -1 ∨ (0 ≤ (i : Int) ∧ (i : Int) < ((i + 1 : Nat) : Int) ∧ ¬ c (65 + (i : Int).toNat) = 0 ∧ FD c (c (47 + (i : Int).toNat)) (c (53 + k)) ≤ c 3) := by
          right
          rw [tnc]
          exact ⟨by omega, by omega, h1, h2⟩
        by_cases h3 : b < 0
        · rw [if_pos h3]; exact hnew
        · rw [if_neg h3]
          split
          · exact hnew
          · rcases ih with h | h
            · omega
            · exact Or.inr ⟨h.1, by omega, h.2.2⟩
      · rw [if_neg h2]
        rcases ih with h | h
        · exact Or.inl h
        · exact Or.inr ⟨h.1, by omega, h.2.2⟩
theorem ansF_r {c : Nat → Int} (hI : Ic c) (k : Nat) : ansF c k = -1 ∨ (0 ≤ ansF c k ∧ ansF c k < c 2) := by
  have hc2 := hI.2.2.1
  rcases ans_inv (c := c) k (c 2).toNat (Nat.le_refl _) with h | h
  · exact Or.inl h
  · exact Or.inr ⟨h.1, by have := h.2.1; unfold ansF; omega⟩
/-! the model's small ones -/
theorem m_has {b w : Nat} (hb : b < 1024) (hw : w < 10) (M : AM) : f_X11_has (b : Int) (w : Int) M = some (if b.testBit w then 1 else 0, M) := by
  unfold f_X11_has
  rw [o_bit hb hw]
  cases b.testBit w <;> simp
theorem m_sizeOf {b : Nat} (hb : b < 1024) (M : AM) : f_X11_sizeOf (b : Int) M = some (((cntB b.testBit 10 : Nat) : Int), M) := by
  unfold f_X11_sizeOf
  refine up_loop0 (fun n i (s : Int) => f_X11_sizeOf_4 n (b : Int) s (i : Int) M) (fun i => ((cntB b.testBit i : Nat) : Int)) 10 _ 0 rfl ?_ ?_ (by omega)
  · intro n i hi
    have h1 := cntB_le b.testBit i
    simp only [f_X11_sizeOf_4]
    rw [if_neg (by omega), m_has hb hi, bind_s]
    cases ht : b.testBit i
    · simp only [Bool.false_eq_true, if_false, if_true]
      rw [o_add_eq (by omega) (by omega), o_succ (by omega)]
      congr 1
      simp [cntB, ht]
    · simp only [if_true]
      rw [if_neg (by omega), o_add_eq (by omega) (by omega), o_succ (by omega)]
      congr 1
      simp [cntB, ht]
  · intro n
    simp only [f_X11_sizeOf_4]
    rw [if_pos (by omega)]
theorem cnt_small {b n : Nat} (h : b < 2 ^ n) : ∀ m, n ≤ m → cntB b.testBit m = cntB b.testBit n := by
  intro m hm
  induction m with
  | zero => have : n = 0 := by omega
            subst this; rfl
  | succ m ih =>
    by_cases e : n = m + 1
    · subst e; rfl
    · have h1 := nat_lt_bit h (i := m) (by omega)
      rw [← ih (by omega)]
      simp [cntB, h1]
theorem o_shl_0 {w : Nat} (h : w < 31) : o_shl 0 (w : Int) = 0 := by
  have : ∀ w : Fin 31, o_shl 0 (w.val : Int) = 0 := by decide +kernel
  exact this ⟨w, h⟩
theorem m_setOf {M : AM} {row m : Nat} (hr : row ≤ 100) (hm : m ≤ 10) (h : ∀ k, k < m → M 5 (row + k) = 0 ∨ M 5 (row + k) = 1) : f_X11_setOf (row : Int) (m : Int) M = some (((setB (rowB (M 5) row) m : Nat) : Int), M) := by
  unfold f_X11_setOf
  refine up_loop0 (fun n i (s : Int) => f_X11_setOf_5 n (row : Int) (m : Int) s (i : Int) M) (fun i => ((setB (rowB (M 5) row) i : Nat) : Int)) m _ 0 rfl ?_ ?_ (by omega)
  · intro n i hi
    simp only [f_X11_setOf_5]
    rw [if_neg (by omega), o_add_eq (by omega) (by omega), if_pos (by omega), zlet_eq]
    have e : Int.toNat ((row : Int) + (i : Int)) = row + i := by omega
    rw [e, o_succ (by omega)]
    congr 1
    rcases h i hi with h0 | h1
    · rw [h0, o_shl_0 (by omega), o_or_set0 (by omega)]
      simp [rowB, h0]
    · rw [h1, o_or_set1 (by omega)]
      simp [rowB, h1]
  · intro n
    simp only [f_X11_setOf_5]
    rw [if_pos (by omega)]
theorem m_whole {M : AM} (hI : Ic (M 5)) : f_X11_setOf 37 (M 5 1) M = some (((wholeN (M 5) : Nat) : Int), M) := by
  have h1 := hI.2.1
  have e : M 5 1 = (((M 5 1).toNat : Nat) : Int) := by omega
  have := m_setOf (M := M) (row := 37) (m := (M 5 1).toNat) (by omega) (by omega) (fun k hk => (Ic_w hI (w := k) (by omega)).2.2.2)
  rw [← e] at this
  exact this
theorem m_holds {M : AM} (hI : Ic (M 5)) : f_X11_setOf 65 (M 5 2) M = some (((holdsN (M 5) : Nat) : Int), M) := by
  have h1 := hI.2.2.1
  have e : M 5 2 = (((M 5 2).toNat : Nat) : Int) := by omega
  have := m_setOf (M := M) (row := 65) (m := (M 5 2).toNat) (by omega) (by omega) (fun k hk => (Ic_k hI (k := k) (by omega)).2.2.2.1)
  rw [← e] at this
  exact this
theorem love_b {c : Nat → Int} (hI : Ic c) : ∀ i : Nat, i ≤ (c 2).toNat → 0 ≤ rg i (fun (s : Int) k => s + c (59 + k)) 0 ∧ rg i (fun (s : Int) k => s + c (59 + k)) 0 ≤ 9 * (i : Int) := by
  intro i
  induction i with
  | zero => intro _; exact ⟨Int.le_refl 0, Int.le_refl 0⟩
  | succ i ih =>
    intro hi
    have := ih (by omega)
    have h2 := (Ic_k hI (k := i) (by omega)).2.2.1
    rw [rg_succ]
    omega
theorem m_allLove {M : AM} (hI : Ic (M 5)) : f_X11_allLove M = some (loveN (M 5), M) := by
  have h1 := hI.2.2.1
  unfold f_X11_allLove
  refine up_loop0 (fun n i (s : Int) => f_X11_allLove_4 n s (i : Int) M) (fun i => rg i (fun (s : Int) k => s + M 5 (59 + k)) 0) (M 5 2).toNat _ 0 rfl ?_ ?_ (by omega)
  · intro n i hi
    have hb := love_b hI i (by omega)
    have h2 := (Ic_k hI (k := i) (by omega)).2.2.1
    simp only [f_X11_allLove_4, tn2]
    rw [if_neg (by omega)]
    simp (disch := omega) only [o_add_eq (x := 59), tp59]
    rw [if_pos (by omega), o_add_eq (by omega) (by omega), o_succ (by omega), rg_succ]
  · intro n
    simp only [f_X11_allLove_4, tn2]
    rw [if_pos (by omega)]
    rfl
theorem m_isRungNow {c : Nat → Int} {M : AM} (hI : Ic c) (h5 : M 5 = c) (hL : Lf c M) {k : Nat} (hk : (k : Int) < c 2) : f_X11_isRungNow (k : Int) M = some (if rungB c k then 1 else 0, M) := by
  have h1 := hI.2.2.1
  have h0 := hI.1
  have h2 := Ic_k hI hk
  unfold f_X11_isRungNow
  simp (disch := omega) only [o_add_eq, tp47, tp53, h5]
  rw [if_pos (by omega), if_pos (by omega), m_isHeard hL (by omega) (by omega), bind_s, h5, bp1]
  unfold rungB
  by_cases h : FD c (c (47 + k)) (c (53 + k)) ≤ c 3 <;> simp [h]
theorem m_rung {M : AM} (hI : Ic (M 5)) : f_X11_rung M = some (((rungN (M 5) : Nat) : Int), LF M) := by
  have h1 := hI.2.2.1
  unfold f_X11_rung
  rw [m_laysFar hI, bind_s]
  refine up_loop0 (fun n i (s : Int) => f_X11_rung_8 n s (i : Int) (LF M)) (fun i => ((setB (rungB (M 5)) i : Nat) : Int)) (M 5 2).toNat _ 0 rfl ?_ ?_ (by omega)
  · intro n i hi
    simp only [f_X11_rung_8, tn2, LF5]
    rw [if_neg (by omega), m_isRungNow hI (LF5 M) (Lf_LF M) (by omega), bind_s, o_succ (by omega)]
    cases ht : rungB (M 5) i
    · simp only [Bool.false_eq_true, if_false, if_true]
      rw [o_or_set0 (by omega) ht]
    · simp only [if_true]
      rw [if_neg (by omega), o_or_set1 (by omega) ht]
  · intro n
    simp only [f_X11_rung_8, tn2, LF5]
    rw [if_pos (by omega)]
    rfl
theorem m_heardIn {c : Nat → Int} {M : AM} (hI : Ic c) (h5 : M 5 = c) (hL : Lf c M) {p : Int} (hp : 0 ≤ p ∧ p < c 0) : f_X11_heardIn p M = some (((heardN c p : Nat) : Int), M) := by
  have h1 := hI.1
  unfold f_X11_heardIn
  refine up_loop0 (fun n i (s : Int) => f_X11_heardIn_4 n p s (i : Int) M) (fun i => ((setB (heardB c p) i : Nat) : Int)) (c 0).toNat _ 0 rfl ?_ ?_ (by omega)
  · intro n i hi
    simp only [f_X11_heardIn_4, tn0, h5]
    rw [if_neg (by omega), m_isHeard hL (by omega) (by omega), bind_s, o_succ (by omega), h5]
    by_cases h : FD c p (i : Int) ≤ c 3
    · simp only [h, if_true]
      rw [if_neg (by omega), o_or_set1 (by omega) (by simp [heardB, h])]
    · simp only [h, if_false, if_true]
      rw [o_or_set0 (by omega) (by simp [heardB, h])]
  · intro n
    simp only [f_X11_heardIn_4, tn0, h5]
    rw [if_pos (by omega)]
    rfl
theorem m_answerOf {c : Nat → Int} {M : AM} (hI : Ic c) (h5 : M 5 = c) (hL : Lf c M) {k : Nat} (hk : (k : Int) < c 2) : f_X11_answerOf (k : Int) M = some (ansF c k, M) := by
  have h0 := hI.1
  have h1 := hI.2.2.1
  have hk2 := Ic_k hI hk
  unfold f_X11_answerOf
  refine up_loop0 (fun n i (s : Int) => f_X11_answerOf_4 n (k : Int) s (i : Int) M) (fun i => rg i (stepA c k) (-1)) (c 2).toNat _ (-1) rfl ?_ ?_ (by omega)
  · intro n i hi
    have hb := ans_inv (c := c) k i (by omega)
    have hi2 := Ic_k hI (k := i) (by omega)
    simp only [f_X11_answerOf_4, tn2, h5]
    rw [if_neg (by omega)]
    simp (disch := omega) only [o_add_eq (x := 65), o_add_eq (x := 47) (y := (i : Int)), o_add_eq (x := 53), tp65, tp47, tp53]
    rw [if_pos (by omega), rg_succ]
    generalize rg i (stepA c k) (-1) = b at hb
    unfold stepA
    by_cases g1 : c (65 + i) = 0
    · rw [if_pos g1, if_pos g1, o_succ (by omega)]
    · rw [if_neg g1, if_neg g1, if_pos (by omega), if_pos (by omega), m_isHeard hL (by omega) (by omega), bind_s, h5]
      by_cases g2 : FD c (c (47 + i)) (c (53 + k)) ≤ c 3
      · simp only [g2, if_true]
        rw [if_pos (by omega)]
        by_cases g3 : b < 0
        · rw [if_neg (by omega), if_pos g3]
          unfold f_X11_answerOf_107
          rw [if_pos (by omega), o_succ (by omega)]
        · obtain ⟨bn, rfl⟩ : ∃ bn : Nat, b = (bn : Int) := ⟨b.toNat, by omega⟩
          have hb2 : (bn : Int) < c 2 := by omega
          have hb3 := Ic_k hI hb2
          rw [if_pos (by omega), if_neg g3]
          simp (disch := omega) only [o_add_eq (x := 47), tp47, tnc, h5]
          rw [if_pos (by omega), m_farOf hL (by omega) (by omega), bind_s]
          dsimp only
          rw [h5, m_farOf hL (by omega) (by omega), bind_s]
          dsimp only
          have b1 := FD_b hI (c (47 + bn)) (c (53 + k))
          have b2 := FD_b hI (c (47 + i)) (c (53 + k))
          rw [o_sub_eq (by omega) (by omega)]
          unfold f_X11_answerOf_107
          by_cases g4 : FD c (c (47 + i)) (c (53 + k)) < FD c (c (47 + bn)) (c (53 + k))
          · rw [if_pos (by omega), if_pos (Or.inl g4), o_succ (by omega)]
          · rw [if_neg (by omega)]
            by_cases g5 : FD c (c (47 + i)) (c (53 + k)) = FD c (c (47 + bn)) (c (53 + k))
            · rw [if_neg (by omega)]
              by_cases g6 : i = k
              · rw [if_neg (by omega), if_pos (Or.inr ⟨g5, g6⟩), o_succ (by omega)]
              · rw [if_pos (by omega), if_neg (by rintro (h | h); exact g4 h; exact g6 h.2), o_succ (by omega)]
            · rw [if_pos (by omega), if_neg (by rintro (h | h); exact g4 h; exact g5 h.1), o_succ (by omega)]
      · simp only [g2, if_false, not_true_eq_false]
        rw [o_succ (by omega)]
  · intro n
    simp only [f_X11_answerOf_4, tn2, h5]
    rw [if_pos (by omega)]
    rfl
/-! the class's small ones -/
def Ib (c : Nat → Int) : Prop := (0 ≤ c 0 ∧ c 0 ≤ 8) ∧ (0 ≤ c 1 ∧ c 1 ≤ 10) ∧ (0 ≤ c 2 ∧ c 2 ≤ 6)
theorem Ib_of {c : Nat → Int} (h : Ic c) : Ib c := ⟨h.1, h.2.1, h.2.2.1⟩
theorem x_isHolding {c : Nat → Int} {q : Nat} {M : AM} (hI : Ib c) (h : Rg c q M) {k : Nat} (hk : (k : Int) < c 2) : f_X1_isHolding q (k : Int) M = some (if c (65 + k) = 1 then 1 else 0, M) := by
  have h1 := hI.2.2
  have hb := bits_at h.2.2.2.2 (by omega) (w := k) (by omega)
  unfold f_X1_isHolding
  by_cases g : c (65 + k) = 1
  · rw [if_neg (fun e => hb.mp e g), if_pos g]
  · rw [if_pos (hb.mpr g), if_neg g]
theorem x_isWhole {c : Nat → Int} {q : Nat} {M : AM} (hI : Ib c) (h : Rg c q M) {k : Nat} (hk : (k : Int) < c 1) : f_X1_isWhole q (k : Int) M = some (if c (37 + k) = 1 then 1 else 0, M) := by
  have h1 := hI.2.1
  have hb := bits_at h.2.2.2.1 (by omega) (w := k) (by omega)
  unfold f_X1_isWhole
  by_cases g : c (37 + k) = 1
  · rw [if_neg (fun e => hb.mp e g), if_pos g]
  · rw [if_pos (hb.mpr g), if_neg g]
theorem x_isMendable {c : Nat → Int} {q : Nat} {M : AM} (hI : Ic c) (h : Rg c q M) {k : Nat} (hk : (k : Int) < c 1) : f_X1_isMendable q (k : Int) M = some (if c (37 + k) = 0 ∨ 0 < c (27 + k) then 1 else 0, M) := by
  have h1 := hI.2.1
  have hw := Ic_w hI hk
  have hs := (h.2.1 k hk).2.2
  unfold f_X1_isMendable
  rw [x_isWhole (Ib_of hI) h hk, bind_s]
  by_cases g : c (37 + k) = 1
  · simp only [g, if_true]
    rw [if_neg (by omega), if_pos (by omega), tnc, hs]
    by_cases g2 : c (27 + k) ≤ 0
    · rw [if_pos g2, if_neg (by omega)]
    · rw [if_neg g2, if_pos (by omega)]
  · simp only [g, if_false, if_true]
    rw [if_pos (by omega)]
theorem x_answerOf {c : Nat → Int} {q : Nat} {M : AM} (hI : Ic c) (h : Rh c q M) {k : Nat} (hk : (k : Int) < c 2) : ∃ N, f_X1_answerOf q (k : Int) M = some (ansF c k, N) ∧ Hm c q M N := by
  have h0 := hI.1
  have h1 := hI.2.2.1
  have h3 := hI.2.2.2.1
  have hk2 := Ic_k hI hk
  obtain ⟨N, e, hN, hz, hE⟩ := x_measure hI h
  refine ⟨N, ?_, hN, hE⟩
  have hl : ∀ a b : Nat, (a : Int) < c 0 → (b : Int) < c 0 → N (q + 10) (8 * a + b) = fD c a b := by
    rcases hN.2.2.2.2.2 with g | g
    · omega
    · exact g.2
  have hg := (Rh_iff.mp hN).1
  unfold f_X1_answerOf
  rw [e, bind_s, hg.1.1]
  refine up_loop0 (fun n i (s : Int × Int) => f_X1_answerOf_14 n q (k : Int) s.1 s.2 (i : Int) N) (fun i => (rg i (stepA c k) (-1), if rg i (stepA c k) (-1) < 0 then c 3 else FD c (c (47 + (rg i (stepA c k) (-1)).toNat)) (c (53 + k)))) (c 2).toNat _ (-1, c 3) rfl ?_ ?_ (by omega)
  · intro n i hi
    have hb := ans_inv (c := c) k i (by omega)
    have hi2 := Ic_k hI (k := i) (by omega)
    have hci := hg.2.2.1 i (by omega)
    have hck := hg.2.2.1 k hk
    simp only [f_X1_answerOf_14]
    rw [hg.1.2.2.2.2.1, if_neg (by omega), x_isHolding (Ib_of hI) hg (by omega), bind_s, rg_succ]
    generalize rg i (stepA c k) (-1) = b at hb
    by_cases g1 : c (65 + i) = 0
    · have g1' : ¬ c (65 + i) = 1 := by omega
      have e1 : stepA c k b i = b := by unfold stepA; rw [if_pos g1]
      simp only [g1', if_false, if_true]
      rw [e1, o_succ (by omega)]
    · have g1' : c (65 + i) = 1 := by omega
      simp only [g1', if_true]
      rw [if_neg (by omega), if_pos (by omega), if_pos (by omega), tnc, tnc, hci.1, hck.2.1]
      obtain ⟨o, ho⟩ : ∃ o : Nat, c (47 + i) = (o : Int) := ⟨(c (47 + i)).toNat, by omega⟩
      obtain ⟨t, ht⟩ : ∃ t : Nat, c (53 + k) = (t : Int) := ⟨(c (53 + k)).toNat, by omega⟩
      have eidx : o_add (o_mul (c (47 + i)) 8) (c (53 + k)) = ((8 * o + t : Nat) : Int) := by
        rw [ho, ht, o_mul_eq (by omega) (by omega), o_add_eq (by omega) (by omega)]; omega
      rw [eidx, if_pos (by omega), zlet_eq, tnc, hl o t (by omega) (by omega), hg.1.1]
      have eF : fD c o t = FD c (c (47 + i)) (c (53 + k)) := by unfold FD; rw [ho, ht, tnc, tnc]
      rw [eF]
      have hst : stepA c k b i = if FD c (c (47 + i)) (c (53 + k)) ≤ c 3 then
          (if b < 0 then (i : Int) else if FD c (c (47 + i)) (c (53 + k)) < FD c (c (47 + b.toNat)) (c (53 + k)) ∨ FD c (c (47 + i)) (c (53 + k)) = FD c (c (47 + b.toNat)) (c (53 + k)) ∧ i = k then (i : Int) else b) else b := by
        unfold stepA; rw [if_neg g1]
      rw [hst]
      generalize hd : FD c (c (47 + i)) (c (53 + k)) = d
      have e2 : FD c (c (47 + (i : Int).toNat)) (c (53 + k)) = d := by rw [tnc, hd]
      by_cases g3 : b < 0
      · have g3' : b = -1 := by omega
        rw [if_neg (by omega), if_pos g3]
        by_cases g2 : d ≤ c 3
        · simp only [g2, if_true, g3, show ¬ (i : Int) < 0 by omega, if_false]
          rw [if_neg (by omega)]
          unfold f_X1_answerOf_89
          rw [if_pos (by omega), e2, o_succ (by omega)]
        · simp only [g2, if_false, g3, if_true]
          rw [if_pos (by omega)]
          unfold f_X1_answerOf_89
          rw [if_neg (by omega)]
          by_cases g4 : i = k
          · rw [if_neg (by omega), if_pos (by omega), o_succ (by omega)]
          · rw [if_pos (by omega), o_succ (by omega)]
      · rcases hb with hb | hb
        · omega
        · have hb4 := hb.2.2.2
          rw [if_pos (by omega), if_neg g3, if_neg g3]
          generalize hf : FD c (c (47 + b.toNat)) (c (53 + k)) = f at hb4
          by_cases g4 : d < f
          · rw [if_neg (by omega), if_pos (by omega), if_pos (Or.inl g4), if_neg (by omega), e2]
            unfold f_X1_answerOf_89
            rw [if_pos (by omega), o_succ (by omega)]
          · rw [if_pos (by omega)]
            unfold f_X1_answerOf_89
            rw [if_neg (by omega)]
            by_cases g5 : i = k
            · rw [if_neg (by omega)]
              by_cases g6 : d = f
              · rw [if_neg (by omega), if_pos (by omega), if_pos (Or.inr ⟨g6, g5⟩), if_neg (by omega), e2, o_succ (by omega)]
              · rw [if_pos g6]
                have e5 : (if d ≤ c 3 then (if d < f ∨ d = f ∧ i = k then (i : Int) else b) else b) = b := by
                  split
                  · rw [if_neg (by omega)]
                  · rfl
                rw [e5, if_neg g3, o_succ (by omega), hf]
            · rw [if_pos (by omega)]
              have e5 : (if d ≤ c 3 then (if d < f ∨ d = f ∧ i = k then (i : Int) else b) else b) = b := by
                split
                · rw [if_neg (by omega)]
                · rfl
              rw [e5, if_neg g3, o_succ (by omega), hf]
  · intro n
    simp only [f_X1_answerOf_14]
    rw [hg.1.2.2.2.2.1, if_pos (by omega)]
    rfl
