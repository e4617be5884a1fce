/-! small methods -/
theorem m_isIn (x lo hi : Int) (M : AM) : f_X11_isIn x lo hi M = some (if lo ≤ x ∧ x ≤ hi then 1 else 0, M) := by
  unfold f_X11_isIn
  simp only [l_cmp_lt, l_cmp_gt]
  by_cases h1 : x < lo
  · simp [h1, Int.not_le.mpr h1]
  · by_cases h2 : hi < x
    · simp [h1, h2, Int.not_le.mpr h2]
    · simp [h1, h2, Int.not_lt.mp h1, Int.not_lt.mp h2]
theorem m_no (a : Int) (M : AM) : f_X11_no a M = some (0, am_upd M 0 0 a) := rfl
theorem m_refuse (a : Int) (M : AM) : f_X11_refuse a M = some (-1, am_upd M 0 0 a) := rfl
theorem x_agree (M : AM) : f_X10_agree M = some (1, am_upd M 15 0 0) := rfl
theorem x_refuse (a : Int) (M : AM) : f_X10_refuse a M = some (0, am_upd M 15 0 a) := rfl
theorem x_fail (a : Int) (M : AM) : f_X10_fail a M = some (-1, am_upd M 15 0 a) := rfl
theorem x_answer (a : Int) (M : AM) : f_X10_answer a M = some (a, am_upd M 15 0 0) := rfl
theorem ite01 (p : Prop) [Decidable p] : ((if p then (1 : Int) else 0) = 0) ↔ ¬ p := by by_cases h : p <;> simp [h]
theorem m_isWireAt (a : Int) (M : AM) (h1 : 0 ≤ M 5 1) (h2 : M 5 1 ≤ 1000) : f_X11_isWireAt a M = some (if 0 ≤ a ∧ a < M 5 1 then 1 else 0, M) := by
  unfold f_X11_isWireAt
  have e : Int.toNat 1 = 1 := rfl
  rw [e, o_sub_eq (by omega) (by omega), m_isIn, bind_s]
  by_cases h : 0 ≤ a ∧ a < M 5 1
  · have : 0 ≤ a ∧ a ≤ M 5 1 - 1 := by omega
    simp [h, this]
  · have : ¬ (0 ≤ a ∧ a ≤ M 5 1 - 1) := by omega
    simp [h, this]
theorem m_isRoomAt (a : Int) (M : AM) (h1 : 0 ≤ M 5 0) (h2 : M 5 0 ≤ 1000) : f_X11_isRoomAt a M = some (if 0 ≤ a ∧ a < M 5 0 then 1 else 0, M) := by
  unfold f_X11_isRoomAt
  have e : Int.toNat 0 = 0 := rfl
  rw [e, o_sub_eq (by omega) (by omega), m_isIn, bind_s]
  by_cases h : 0 ≤ a ∧ a < M 5 0
  · have : 0 ≤ a ∧ a ≤ M 5 0 - 1 := by omega
    simp [h, this]
  · have : ¬ (0 ≤ a ∧ a ≤ M 5 0 - 1) := by omega
    simp [h, this]
theorem m_isCoupleAt (a : Int) (M : AM) (h1 : 0 ≤ M 5 2) (h2 : M 5 2 ≤ 1000) : f_X11_isCoupleAt a M = some (if 0 ≤ a ∧ a < M 5 2 then 1 else 0, M) := by
  unfold f_X11_isCoupleAt
  have e : Int.toNat 2 = 2 := rfl
  rw [e, o_sub_eq (by omega) (by omega), m_isIn, bind_s]
  by_cases h : 0 ≤ a ∧ a < M 5 2
  · have : 0 ≤ a ∧ a ≤ M 5 2 - 1 := by omega
    simp [h, this]
  · have : ¬ (0 ≤ a ∧ a ≤ M 5 2 - 1) := by omega
    simp [h, this]
theorem x_isRoom (q : Nat) (a : Int) (M : AM) : f_X1_isRoom q a M = some (if 0 ≤ a ∧ a < M q 2 then 1 else 0, M) := by
  unfold f_X1_isRoom
  by_cases h1 : a < 0
  · simp [h1, Int.not_le.mpr h1]
  · by_cases h2 : M q 2 ≤ a
    · simp [h1, h2, Int.not_lt.mpr h2]
    · simp [h1, h2, Int.not_lt.mp h1, Int.not_le.mp h2]
theorem x_isWire (q : Nat) (a : Int) (M : AM) : f_X1_isWire q a M = some (if 0 ≤ a ∧ a < M q 3 then 1 else 0, M) := by
  unfold f_X1_isWire
  by_cases h1 : a < 0
  · simp [h1, Int.not_le.mpr h1]
  · by_cases h2 : M q 3 ≤ a
    · simp [h1, h2, Int.not_lt.mpr h2]
    · simp [h1, h2, Int.not_lt.mp h1, Int.not_le.mp h2]
theorem x_isCouple (q : Nat) (a : Int) (M : AM) : f_X1_isCouple q a M = some (if 0 ≤ a ∧ a < M q 4 then 1 else 0, M) := by
  unfold f_X1_isCouple
  by_cases h1 : a < 0
  · simp [h1, Int.not_le.mpr h1]
  · by_cases h2 : M q 4 ≤ a
    · simp [h1, h2, Int.not_lt.mpr h2]
    · simp [h1, h2, Int.not_lt.mp h1, Int.not_le.mp h2]
theorem b01 {α : Type} (a b : α) : (if (0 : Int) = 0 ∨ (0 : Int) = 1 then a else b) = a := if_pos (Or.inl rfl)
theorem b11 {α : Type} (a b : α) : (if (1 : Int) = 0 ∨ (1 : Int) = 1 then a else b) = a := if_pos (Or.inr rfl)
theorem bp1 {α : Type} (p : Prop) [Decidable p] (a b : α) : (if (if p then (1 : Int) else 0) = 0 ∨ (if p then (1 : Int) else 0) = 1 then a else b) = a := by
  by_cases h : p <;> simp [h]
-- rule
theorem x_rule (a1 a2 : Int) (M : AM) : f_X10_rule a1 a2 M = if a1 = 3 ∧ 1 ≤ a2 ∧ a2 ≤ 99 then some (1, am_upd (am_upd M 23 0 a2) 15 0 0) else if a1 = 4 ∧ 0 ≤ a2 ∧ a2 ≤ 16 then some (1, am_upd (am_upd M 23 1 a2) 15 0 0) else some (0, am_upd M 15 0 5) := by
  have h57 : ∀ M, f_X10_rule_57 M = some (0, am_upd M 15 0 5) := fun _ => rfl
  have h29 : f_X10_rule_29 a1 a2 M = if a1 = 4 ∧ 0 ≤ a2 ∧ a2 ≤ 16 then some (1, am_upd (am_upd M 23 1 a2) 15 0 0) else some (0, am_upd M 15 0 5) := by
    unfold f_X10_rule_29
    simp only [ite_not, or_true, true_or, if_true, h57, zlet_eq, x_agree, bind_s, b11]
    repeat' split
    all_goals first | rfl | omega
  unfold f_X10_rule
  simp only [ite_not, or_true, true_or, if_true, h29, zlet_eq, x_agree, bind_s, b11]
  repeat' split
  all_goals first | rfl | omega
theorem m_rule (a1 a2 : Int) (M : AM) : f_X11_rule a1 a2 M = if a1 = 3 ∧ 1 ≤ a2 ∧ a2 ≤ 99 ∨ a1 = 4 ∧ 0 ≤ a2 ∧ a2 ≤ 16 then some (1, am_upd (am_upd (am_upd M 0 1 0) 0 0 0) 5 a1.toNat a2) else some (0, am_upd (am_upd (am_upd M 0 1 0) 0 0 0) 0 0 5) := by
  have h56 : ∀ M, f_X11_rule_56 M = some (0, am_upd M 0 0 5) := fun _ => rfl
  unfold f_X11_rule f_X11_rule_36 f_X11_rule_50
  simp only [ite_not, or_true, true_or, if_true, h56, zlet_eq, m_isIn, bind_s, ite01]
  repeat' split
  all_goals first | rfl | omega
