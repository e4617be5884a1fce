/-! TEXTS: the kept words in the model -/
def SP1 (u w : Int) : Int := if u ≤ 0 then w else l_sub (l_add (l_mul w 32) u) 96
def SP (p q r s t u : Int) : Int := SP1 u (SP1 t (SP1 s (SP1 r (l_sub (l_add (l_mul (l_sub p 96) 32) q) 96))))
theorem m_spelled (p q r s t u : Int) (M : AM) : f_X11_spelled p q r s t u M = some (SP p q r s t u, M) := by
  unfold f_X11_spelled f_X11_spelled_41 f_X11_spelled_65 f_X11_spelled_91 SP SP1
  by_cases h1 : r ≤ 0 <;> by_cases h2 : s ≤ 0 <;> by_cases h3 : t ≤ 0 <;> by_cases h4 : u ≤ 0 <;> simp only [h1, h2, h3, h4, if_true, if_false]
theorem SP_0 : SP 112 111 119 101 114 0 = kwl.getD 0 0 := by decide +kernel
theorem SP_1 : SP 111 100 100 115 0 0 = kwl.getD 1 0 := by decide +kernel
theorem SP_2 : SP 114 111 111 109 0 0 = kwl.getD 2 0 := by decide +kernel
theorem SP_3 : SP 119 105 114 101 0 0 = kwl.getD 3 0 := by decide +kernel
theorem SP_4 : SP 102 114 111 109 0 0 = kwl.getD 4 0 := by decide +kernel
theorem SP_5 : SP 116 111 0 0 0 0 = kwl.getD 5 0 := by decide +kernel
theorem SP_6 : SP 115 108 97 99 107 0 = kwl.getD 6 0 := by decide +kernel
theorem SP_7 : SP 99 111 117 112 108 101 = kwl.getD 7 0 := by decide +kernel
theorem SP_8 : SP 104 101 0 0 0 0 = kwl.getD 8 0 := by decide +kernel
theorem SP_9 : SP 115 104 101 0 0 0 = kwl.getD 9 0 := by decide +kernel
theorem SP_10 : SP 108 111 118 101 0 0 = kwl.getD 10 0 := by decide +kernel
theorem SP_11 : SP 100 97 121 0 0 0 = kwl.getD 11 0 := by decide +kernel
theorem SP_12 : SP 100 97 109 112 0 0 = kwl.getD 12 0 := by decide +kernel
theorem SP_13 : SP 100 114 121 0 0 0 = kwl.getD 13 0 := by decide +kernel
theorem SP_14 : SP 109 101 110 100 0 0 = kwl.getD 14 0 := by decide +kernel
theorem SP_15 : SP 99 117 116 0 0 0 = kwl.getD 15 0 := by decide +kernel
theorem SP_16 : SP 97 110 121 0 0 0 = kwl.getD 16 0 := by decide +kernel
theorem SP_17 : SP 119 104 101 110 0 0 = kwl.getD 17 0 := by decide +kernel
theorem SP_18 : SP 114 117 110 103 0 0 = kwl.getD 18 0 := by decide +kernel
theorem SP_19 : SP 112 97 114 116 101 100 = kwl.getD 19 0 := by decide +kernel
theorem SP_20 : SP 108 111 111 112 0 0 = kwl.getD 20 0 := by decide +kernel
theorem SP_21 : SP 101 110 100 0 0 0 = kwl.getD 21 0 := by decide +kernel
theorem SP_22 : SP 115 116 111 112 0 0 = kwl.getD 22 0 := by decide +kernel
theorem kwl_inj {i j : Nat} (hi : i < 23) (hj : j < 23) (h : kwl.getD i 0 = kwl.getD j 0) : i = j := by
  have : ∀ i j : Fin 23, kwl.getD i.val 0 = kwl.getD j.val 0 → i = j := by decide +kernel
  exact congrArg Fin.val (this ⟨i, hi⟩ ⟨j, hj⟩ h)
theorem any_isWord (w : Int) (B : AM) : ∃ v : Int, (v = 0 ∨ v = 1) ∧ f_X11_isWord w B = some (v, B) := by
  unfold f_X11_isWord
  by_cases h1 : B 0 14 = 1
  · rw [if_neg (fun h => h h1)]
    by_cases h2 : l_cmp (B 0 19) w = 0
    · rw [if_neg (fun h => h h2)]; exact ⟨1, Or.inr rfl, rfl⟩
    · rw [if_pos h2]; exact ⟨0, Or.inl rfl, rfl⟩
  · rw [if_pos h1]; exact ⟨0, Or.inl rfl, rfl⟩
theorem m_isWord {L : Nat} {A B : AM} (h : TK L A B) {i : Nat} (hi : i < 23) {K : Int} (hK : (i : Int) = K) : f_X11_isWord (kwl.getD i 0) B = some (if A 20 3 = K then 1 else 0, B) := by
  have e0 := h.2.2.1.1
  unfold f_X11_isWord
  by_cases g : A 20 0 = 1
  · obtain ⟨_, hw, _⟩ := h.2.2.2.2.2.1 g
    rw [if_neg (show ¬ ¬ B 0 14 = 1 by omega)]
    rcases hw with ⟨k1, k2⟩ | ⟨j, k1, k2, k3⟩
    · rw [if_pos (fun h => k2 i hi ((l_cmp_eq _ _).mp h)), if_neg (by omega)]
    · by_cases e : j = i
      · subst e
        rw [if_neg (fun h => h ((l_cmp_eq _ _).mpr k3)), if_pos (by omega)]
      · rw [if_pos (fun h => e (kwl_inj k1 hi (k3.symm.trans ((l_cmp_eq _ _).mp h)))), if_neg (by omega)]
  · have e3 := h.2.2.2.2.2.2.1 g
    rw [if_pos (show ¬ B 0 14 = 1 by omega), if_neg (by omega)]
theorem TK_kr {L : Nat} {A B : AM} (h : TK L A B) : -1 ≤ A 20 3 ∧ A 20 3 ≤ 22 := by
  by_cases g : A 20 0 = 1
  · obtain ⟨_, hw, _⟩ := h.2.2.2.2.2.1 g
    rcases hw with ⟨k1, k2⟩ | ⟨j, k1, k2, k3⟩ <;> omega
  · have e3 := h.2.2.2.2.2.2.1 g
    omega
theorem fin01 {p : Prop} [Decidable p] {B : AM} : (if (if p then (1 : Int) else 0) = 0 ∨ (if p then (1 : Int) else 0) = 1 then some ((if p then (1 : Int) else 0), B) else none) = some ((if p then (1 : Int) else 0), B) := by
  by_cases g : p
  · simp only [if_pos g, or_true, if_true]
  · simp only [if_neg g, true_or, if_true]
theorem m_isPower {L : Nat} {A B : AM} (h : TK L A B) : f_X11_isPower B = some (if A 20 3 = 0 then 1 else 0, B) := by
  unfold f_X11_isPower
  rw [m_spelled, SP_0, bind_s]
  dsimp only
  rw [m_isWord h (by decide) (K := 0) rfl, bind_s]
  exact fin01
theorem any_isPower (B : AM) : ∃ v : Int, (v = 0 ∨ v = 1) ∧ f_X11_isPower B = some (v, B) := by
  unfold f_X11_isPower
  rw [m_spelled, bind_s]
  dsimp only
  obtain ⟨v, hv, e⟩ := any_isWord (SP 112 111 119 101 114 0) B
  rw [e, bind_s, if_pos hv]
  exact ⟨v, hv, rfl⟩
theorem m_isOdds {L : Nat} {A B : AM} (h : TK L A B) : f_X11_isOdds B = some (if A 20 3 = 1 then 1 else 0, B) := by
  unfold f_X11_isOdds
  rw [m_spelled, SP_1, bind_s]
  dsimp only
  rw [m_isWord h (by decide) (K := 1) rfl, bind_s]
  exact fin01
theorem any_isOdds (B : AM) : ∃ v : Int, (v = 0 ∨ v = 1) ∧ f_X11_isOdds B = some (v, B) := by
  unfold f_X11_isOdds
  rw [m_spelled, bind_s]
  dsimp only
  obtain ⟨v, hv, e⟩ := any_isWord (SP 111 100 100 115 0 0) B
  rw [e, bind_s, if_pos hv]
  exact ⟨v, hv, rfl⟩
theorem m_isRoom {L : Nat} {A B : AM} (h : TK L A B) : f_X11_isRoom B = some (if A 20 3 = 2 then 1 else 0, B) := by
  unfold f_X11_isRoom
  rw [m_spelled, SP_2, bind_s]
  dsimp only
  rw [m_isWord h (by decide) (K := 2) rfl, bind_s]
  exact fin01
theorem any_isRoom (B : AM) : ∃ v : Int, (v = 0 ∨ v = 1) ∧ f_X11_isRoom B = some (v, B) := by
  unfold f_X11_isRoom
  rw [m_spelled, bind_s]
  dsimp only
  obtain ⟨v, hv, e⟩ := any_isWord (SP 114 111 111 109 0 0) B
  rw [e, bind_s, if_pos hv]
  exact ⟨v, hv, rfl⟩
theorem m_isWire {L : Nat} {A B : AM} (h : TK L A B) : f_X11_isWire B = some (if A 20 3 = 3 then 1 else 0, B) := by
  unfold f_X11_isWire
  rw [m_spelled, SP_3, bind_s]
  dsimp only
  rw [m_isWord h (by decide) (K := 3) rfl, bind_s]
  exact fin01
theorem any_isWire (B : AM) : ∃ v : Int, (v = 0 ∨ v = 1) ∧ f_X11_isWire B = some (v, B) := by
  unfold f_X11_isWire
  rw [m_spelled, bind_s]
  dsimp only
  obtain ⟨v, hv, e⟩ := any_isWord (SP 119 105 114 101 0 0) B
  rw [e, bind_s, if_pos hv]
  exact ⟨v, hv, rfl⟩
theorem m_isFrom {L : Nat} {A B : AM} (h : TK L A B) : f_X11_isFrom B = some (if A 20 3 = 4 then 1 else 0, B) := by
  unfold f_X11_isFrom
  rw [m_spelled, SP_4, bind_s]
  dsimp only
  rw [m_isWord h (by decide) (K := 4) rfl, bind_s]
  exact fin01
theorem any_isFrom (B : AM) : ∃ v : Int, (v = 0 ∨ v = 1) ∧ f_X11_isFrom B = some (v, B) := by
  unfold f_X11_isFrom
  rw [m_spelled, bind_s]
  dsimp only
  obtain ⟨v, hv, e⟩ := any_isWord (SP 102 114 111 109 0 0) B
  rw [e, bind_s, if_pos hv]
  exact ⟨v, hv, rfl⟩
theorem m_isTo {L : Nat} {A B : AM} (h : TK L A B) : f_X11_isTo B = some (if A 20 3 = 5 then 1 else 0, B) := by
  unfold f_X11_isTo
  rw [m_spelled, SP_5, bind_s]
  dsimp only
  rw [m_isWord h (by decide) (K := 5) rfl, bind_s]
  exact fin01
theorem any_isTo (B : AM) : ∃ v : Int, (v = 0 ∨ v = 1) ∧ f_X11_isTo B = some (v, B) := by
  unfold f_X11_isTo
  rw [m_spelled, bind_s]
  dsimp only
  obtain ⟨v, hv, e⟩ := any_isWord (SP 116 111 0 0 0 0) B
  rw [e, bind_s, if_pos hv]
  exact ⟨v, hv, rfl⟩
theorem m_isSlack {L : Nat} {A B : AM} (h : TK L A B) : f_X11_isSlack B = some (if A 20 3 = 6 then 1 else 0, B) := by
  unfold f_X11_isSlack
  rw [m_spelled, SP_6, bind_s]
  dsimp only
  rw [m_isWord h (by decide) (K := 6) rfl, bind_s]
  exact fin01
theorem any_isSlack (B : AM) : ∃ v : Int, (v = 0 ∨ v = 1) ∧ f_X11_isSlack B = some (v, B) := by
  unfold f_X11_isSlack
  rw [m_spelled, bind_s]
  dsimp only
  obtain ⟨v, hv, e⟩ := any_isWord (SP 115 108 97 99 107 0) B
  rw [e, bind_s, if_pos hv]
  exact ⟨v, hv, rfl⟩
theorem m_isCouple {L : Nat} {A B : AM} (h : TK L A B) : f_X11_isCouple B = some (if A 20 3 = 7 then 1 else 0, B) := by
  unfold f_X11_isCouple
  rw [m_spelled, SP_7, bind_s]
  dsimp only
  rw [m_isWord h (by decide) (K := 7) rfl, bind_s]
  exact fin01
theorem any_isCouple (B : AM) : ∃ v : Int, (v = 0 ∨ v = 1) ∧ f_X11_isCouple B = some (v, B) := by
  unfold f_X11_isCouple
  rw [m_spelled, bind_s]
  dsimp only
  obtain ⟨v, hv, e⟩ := any_isWord (SP 99 111 117 112 108 101) B
  rw [e, bind_s, if_pos hv]
  exact ⟨v, hv, rfl⟩
theorem m_isHe {L : Nat} {A B : AM} (h : TK L A B) : f_X11_isHe B = some (if A 20 3 = 8 then 1 else 0, B) := by
  unfold f_X11_isHe
  rw [m_spelled, SP_8, bind_s]
  dsimp only
  rw [m_isWord h (by decide) (K := 8) rfl, bind_s]
  exact fin01
theorem any_isHe (B : AM) : ∃ v : Int, (v = 0 ∨ v = 1) ∧ f_X11_isHe B = some (v, B) := by
  unfold f_X11_isHe
  rw [m_spelled, bind_s]
  dsimp only
  obtain ⟨v, hv, e⟩ := any_isWord (SP 104 101 0 0 0 0) B
  rw [e, bind_s, if_pos hv]
  exact ⟨v, hv, rfl⟩
theorem m_isShe {L : Nat} {A B : AM} (h : TK L A B) : f_X11_isShe B = some (if A 20 3 = 9 then 1 else 0, B) := by
  unfold f_X11_isShe
  rw [m_spelled, SP_9, bind_s]
  dsimp only
  rw [m_isWord h (by decide) (K := 9) rfl, bind_s]
  exact fin01
theorem any_isShe (B : AM) : ∃ v : Int, (v = 0 ∨ v = 1) ∧ f_X11_isShe B = some (v, B) := by
  unfold f_X11_isShe
  rw [m_spelled, bind_s]
  dsimp only
  obtain ⟨v, hv, e⟩ := any_isWord (SP 115 104 101 0 0 0) B
  rw [e, bind_s, if_pos hv]
  exact ⟨v, hv, rfl⟩
theorem m_isLove {L : Nat} {A B : AM} (h : TK L A B) : f_X11_isLove B = some (if A 20 3 = 10 then 1 else 0, B) := by
  unfold f_X11_isLove
  rw [m_spelled, SP_10, bind_s]
  dsimp only
  rw [m_isWord h (by decide) (K := 10) rfl, bind_s]
  exact fin01
theorem any_isLove (B : AM) : ∃ v : Int, (v = 0 ∨ v = 1) ∧ f_X11_isLove B = some (v, B) := by
  unfold f_X11_isLove
  rw [m_spelled, bind_s]
  dsimp only
  obtain ⟨v, hv, e⟩ := any_isWord (SP 108 111 118 101 0 0) B
  rw [e, bind_s, if_pos hv]
  exact ⟨v, hv, rfl⟩
theorem m_isEnd {L : Nat} {A B : AM} (h : TK L A B) : f_X11_isEnd B = some (if A 20 3 = 21 then 1 else 0, B) := by
  unfold f_X11_isEnd
  rw [m_spelled, SP_21, bind_s]
  dsimp only
  rw [m_isWord h (by decide) (K := 21) rfl, bind_s]
  exact fin01
theorem any_isEnd (B : AM) : ∃ v : Int, (v = 0 ∨ v = 1) ∧ f_X11_isEnd B = some (v, B) := by
  unfold f_X11_isEnd
  rw [m_spelled, bind_s]
  dsimp only
  obtain ⟨v, hv, e⟩ := any_isWord (SP 101 110 100 0 0 0) B
  rw [e, bind_s, if_pos hv]
  exact ⟨v, hv, rfl⟩
def stepI (K : Int) : Int := if K = 11 then 0 else if K = 12 then 1 else if K = 13 then 2 else if K = 14 then 3 else if K = 15 then 4 else if K = 16 then 5 else if K = 17 then 6 else if K = 20 then 7 else if K = 22 then 8 else -1
def testI (K : Int) : Int := if K = 18 then 0 else if K = 10 then 1 else if K = 19 then 2 else -1
theorem m_stepWord {L : Nat} {A B : AM} (h : TK L A B) : f_X11_stepWord B = some (stepI (A 20 3), B) := by
  unfold f_X11_stepWord stepI
  rw [m_spelled, SP_11, bind_s]
  dsimp only
  rw [m_isWord h (by decide) (K := 11) rfl, bind_s]
  by_cases g11 : A 20 3 = 11
  · simp only [if_pos g11, i10, if_false]
  simp only [if_neg g11, if_true]
  rw [m_spelled, SP_12, bind_s]
  dsimp only
  rw [m_isWord h (by decide) (K := 12) rfl, bind_s]
  by_cases g12 : A 20 3 = 12
  · simp only [if_pos g12, i10, if_false]
  simp only [if_neg g12, if_true]
  rw [m_spelled, SP_13, bind_s]
  dsimp only
  rw [m_isWord h (by decide) (K := 13) rfl, bind_s]
  by_cases g13 : A 20 3 = 13
  · simp only [if_pos g13, i10, if_false]
  simp only [if_neg g13, if_true]
  rw [m_spelled, SP_14, bind_s]
  dsimp only
  rw [m_isWord h (by decide) (K := 14) rfl, bind_s]
  by_cases g14 : A 20 3 = 14
  · simp only [if_pos g14, i10, if_false]
  simp only [if_neg g14, if_true]
  rw [m_spelled, SP_15, bind_s]
  dsimp only
  rw [m_isWord h (by decide) (K := 15) rfl, bind_s]
  by_cases g15 : A 20 3 = 15
  · simp only [if_pos g15, i10, if_false]
  simp only [if_neg g15, if_true]
  rw [m_spelled, SP_16, bind_s]
  dsimp only
  rw [m_isWord h (by decide) (K := 16) rfl, bind_s]
  by_cases g16 : A 20 3 = 16
  · simp only [if_pos g16, i10, if_false]
  simp only [if_neg g16, if_true]
  rw [m_spelled, SP_17, bind_s]
  dsimp only
  rw [m_isWord h (by decide) (K := 17) rfl, bind_s]
  by_cases g17 : A 20 3 = 17
  · simp only [if_pos g17, i10, if_false]
  simp only [if_neg g17, if_true]
  rw [m_spelled, SP_20, bind_s]
  dsimp only
  rw [m_isWord h (by decide) (K := 20) rfl, bind_s]
  by_cases g20 : A 20 3 = 20
  · simp only [if_pos g20, i10, if_false]
  simp only [if_neg g20, if_true]
  rw [m_spelled, SP_22, bind_s]
  dsimp only
  rw [m_isWord h (by decide) (K := 22) rfl, bind_s]
  by_cases g22 : A 20 3 = 22
  · simp only [if_pos g22, i10, if_false]
  simp only [if_neg g22, if_true]
theorem m_testWord {L : Nat} {A B : AM} (h : TK L A B) : f_X11_testWord B = some (testI (A 20 3), B) := by
  unfold f_X11_testWord testI
  rw [m_spelled, SP_18, bind_s]
  dsimp only
  rw [m_isWord h (by decide) (K := 18) rfl, bind_s]
  by_cases g18 : A 20 3 = 18
  · simp only [if_pos g18, i10, if_false]
  simp only [if_neg g18, if_true]
  rw [m_isLove h, bind_s]
  by_cases g10 : A 20 3 = 10
  · simp only [if_pos g10, i10, if_false]
  simp only [if_neg g10, if_true]
  rw [m_spelled, SP_19, bind_s]
  dsimp only
  rw [m_isWord h (by decide) (K := 19) rfl, bind_s]
  by_cases g19 : A 20 3 = 19
  · simp only [if_pos g19, i10, if_false]
  simp only [if_neg g19, if_true]
theorem m_isKept {L : Nat} {A B : AM} (h : TK L A B) : f_X11_isKept B = some (if A 20 3 = -1 then 0 else 1, B) := by
  have hr := TK_kr h
  unfold f_X11_isKept
  rw [m_isPower h, bind_s]
  by_cases g0 : A 20 3 = 0
  · simp only [if_pos g0, i10, not_false_eq_true, if_true]
    rw [if_neg (by omega)]
  simp only [if_neg g0, not_true_eq_false, if_false]
  rw [m_isOdds h, bind_s]
  by_cases g1 : A 20 3 = 1
  · simp only [if_pos g1, i10, not_false_eq_true, if_true]
    rw [if_neg (by omega)]
  simp only [if_neg g1, not_true_eq_false, if_false]
  rw [m_isRoom h, bind_s]
  by_cases g2 : A 20 3 = 2
  · simp only [if_pos g2, i10, not_false_eq_true, if_true]
    rw [if_neg (by omega)]
  simp only [if_neg g2, not_true_eq_false, if_false]
  rw [m_isWire h, bind_s]
  by_cases g3 : A 20 3 = 3
  · simp only [if_pos g3, i10, not_false_eq_true, if_true]
    rw [if_neg (by omega)]
  simp only [if_neg g3, not_true_eq_false, if_false]
  rw [m_isFrom h, bind_s]
  by_cases g4 : A 20 3 = 4
  · simp only [if_pos g4, i10, not_false_eq_true, if_true]
    rw [if_neg (by omega)]
  simp only [if_neg g4, not_true_eq_false, if_false]
  rw [m_isTo h, bind_s]
  by_cases g5 : A 20 3 = 5
  · simp only [if_pos g5, i10, not_false_eq_true, if_true]
    rw [if_neg (by omega)]
  simp only [if_neg g5, not_true_eq_false, if_false]
  rw [m_isSlack h, bind_s]
  by_cases g6 : A 20 3 = 6
  · simp only [if_pos g6, i10, not_false_eq_true, if_true]
    rw [if_neg (by omega)]
  simp only [if_neg g6, not_true_eq_false, if_false]
  rw [m_isCouple h, bind_s]
  by_cases g7 : A 20 3 = 7
  · simp only [if_pos g7, i10, not_false_eq_true, if_true]
    rw [if_neg (by omega)]
  simp only [if_neg g7, not_true_eq_false, if_false]
  rw [m_isHe h, bind_s]
  by_cases g8 : A 20 3 = 8
  · simp only [if_pos g8, i10, not_false_eq_true, if_true]
    rw [if_neg (by omega)]
  simp only [if_neg g8, not_true_eq_false, if_false]
  rw [m_isShe h, bind_s]
  by_cases g9 : A 20 3 = 9
  · simp only [if_pos g9, i10, if_false]
    rw [if_neg (by omega)]
  simp only [if_neg g9, if_true]
  rw [m_stepWord h, bind_s]
  dsimp only
  by_cases gs : 0 ≤ stepI (A 20 3)
  · rw [if_pos gs]
    rw [if_neg (fun h => by rw [h] at gs; exact absurd gs (by decide))]
  rw [if_neg gs, m_testWord h, bind_s]
  dsimp only
  by_cases gt : 0 ≤ testI (A 20 3)
  · rw [if_pos gt]
    rw [if_neg (fun h => by rw [h] at gt; exact absurd gt (by decide))]
  rw [if_neg gt, m_isEnd h, bind_s]
  dsimp only
  by_cases ge : A 20 3 = 21
  · simp only [if_pos ge, i10, if_false]
    rw [if_neg (by omega)]
  · simp only [if_neg ge, if_true]
    have : A 20 3 = -1 := by
      have k : ∀ K : Fin 23, K.val ≠ 0 → K.val ≠ 1 → K.val ≠ 2 → K.val ≠ 3 → K.val ≠ 4 → K.val ≠ 5 → K.val ≠ 6 → K.val ≠ 7 → K.val ≠ 8 → K.val ≠ 9 → K.val ≠ 21 → 0 ≤ stepI (K.val : Int) ∨ 0 ≤ testI (K.val : Int) := by decide +kernel
      by_cases hm : A 20 3 = -1
      · exact hm
      · have e : (((A 20 3).toNat : Nat) : Int) = A 20 3 := by omega
        have := k ⟨(A 20 3).toNat, by omega⟩ (by show (A 20 3).toNat ≠ 0; omega) (by show (A 20 3).toNat ≠ 1; omega) (by show (A 20 3).toNat ≠ 2; omega) (by show (A 20 3).toNat ≠ 3; omega) (by show (A 20 3).toNat ≠ 4; omega) (by show (A 20 3).toNat ≠ 5; omega) (by show (A 20 3).toNat ≠ 6; omega) (by show (A 20 3).toNat ≠ 7; omega) (by show (A 20 3).toNat ≠ 8; omega) (by show (A 20 3).toNat ≠ 9; omega) (by show (A 20 3).toNat ≠ 21; omega)
        dsimp only at this
        rw [e] at this
        exact absurd this (fun h => h.elim gs gt)
    rw [if_pos this]
/-- a NAME stands here -/
def nameP (A : AM) : Prop := A 20 0 = 1 ∧ A 20 3 = -1 ∧ A 20 8 ≤ 8
theorem x_isName_t {A : AM} (h : nameP A) : f_X5_isName A = some (1, A) := by
  unfold f_X5_isName
  rw [if_neg (fun g => g h.1), if_neg (fun g => g h.2.1), if_neg (by have := h.2.2; omega)]
theorem x_isName_f {A : AM} (h : ¬ nameP A) : f_X5_isName A = some (0, A) := by
  unfold f_X5_isName
  by_cases g1 : A 20 0 = 1
  · rw [if_neg (fun g => g g1)]
    by_cases g2 : A 20 3 = -1
    · rw [if_neg (fun g => g g2), if_pos (by by_cases g3 : A 20 8 ≤ 8; exact absurd ⟨g1, g2, g3⟩ h; omega)]
    · rw [if_pos g2]
  · rw [if_pos g1]
theorem m_isName_t {L : Nat} {A B : AM} (hT : TK L A B) (h : nameP A) : f_X11_isName B = some (1, B) := by
  have e0 := hT.2.2.1.1
  have e8 := (hT.2.2.2.2.2.1 h.1).1
  have h1 := h.1
  have h8 := h.2.2
  unfold f_X11_isName
  rw [if_neg (show ¬ ¬ B 0 14 = 1 by omega), if_neg (by omega), m_isKept hT, bind_s, if_pos h.2.1]
  rfl
theorem m_isName_f {L : Nat} {A B : AM} (hT : TK L A B) (h : ¬ nameP A) : f_X11_isName B = some (0, B) := by
  have e0 := hT.2.2.1.1
  unfold f_X11_isName
  by_cases g1 : A 20 0 = 1
  · have e8 := (hT.2.2.2.2.2.1 g1).1
    rw [if_neg (show ¬ ¬ B 0 14 = 1 by omega)]
    by_cases g3 : A 20 8 ≤ 8
    · have g2 : ¬ A 20 3 = -1 := fun g => h ⟨g1, g, g3⟩
      rw [if_neg (by omega), m_isKept hT, bind_s, if_neg g2]
      rfl
    · rw [if_pos (by omega)]
  · rw [if_pos (by omega)]
/-! the first NAME of a row that is the word -/
def FN (f : Nat → Int) (w : Int) (n : Nat) (v : Int) : Prop := (v = -1 ∧ ∀ e, e < n → f e ≠ w) ∨ ∃ i : Nat, i < n ∧ v = (i : Int) ∧ f i = w ∧ ∀ e, e < i → f e ≠ w
theorem FN_uniq {f g : Nat → Int} {w : Int} {n : Nat} {v v2 : Int} (h : ∀ i, i < n → f i = g i) (h1 : FN f w n v) (h2 : FN g w n v2) : v = v2 := by
  rcases h1 with ⟨a1, a2⟩ | ⟨i, a1, a2, a3, a4⟩
  · rcases h2 with ⟨b1, b2⟩ | ⟨j, b1, b2, b3, b4⟩
    · omega
    · exact absurd ((h j b1).trans b3) (a2 j b1)
  · rcases h2 with ⟨b1, b2⟩ | ⟨j, b1, b2, b3, b4⟩
    · exact absurd ((h i a1).symm.trans a3) (b2 i a1)
    · by_cases g1 : i < j
      · exact absurd ((h i a1).symm.trans a3) (b4 i g1)
      · by_cases g2 : j < i
        · exact absurd ((h j b1).trans b3) (a4 j g2)
        · omega
theorem FN_r {f : Nat → Int} {w : Int} {n : Nat} {v : Int} (h : FN f w n v) : -1 ≤ v ∧ v < (n : Int) := by
  rcases h with ⟨a1, a2⟩ | ⟨i, a1, a2, a3, a4⟩ <;> omega
theorem x_findName {A : AM} {q first n : Nat} {w : Int} (hn : first + n ≤ 24) : ∃ v, FN (fun i => A (q + 9) (first + i)) w n v ∧ f_X1_findName q (first : Int) (n : Int) w A = some (v, A) := by
  have loop : ∀ (j i : Nat), i + j = n → (∀ e, e < i → A (q + 9) (first + e) ≠ w) → ∃ v, FN (fun i => A (q + 9) (first + i)) w n v ∧ ∀ f, j < f → f_X1_findName_3 f q (first : Int) (n : Int) w (i : Int) A = some (v, A) := by
    intro j
    induction j with
    | zero =>
      intro i hi hne
      refine ⟨-1, Or.inl ⟨rfl, fun e he => hne e (by omega)⟩, fun f hf => ?_⟩
      obtain ⟨f2, rfl⟩ : ∃ f2, f = f2 + 1 := ⟨f - 1, by omega⟩
      rw [f_X1_findName_3, if_pos (by omega)]
    | succ j ih =>
      intro i hi hne
      have ha : o_add (first : Int) (i : Int) = ((first + i : Nat) : Int) := by rw [o_add_eq (by omega) (by omega)]; omega
      by_cases g : A (q + 9) (first + i) = w
      · refine ⟨(i : Int), Or.inr ⟨i, by omega, rfl, g, hne⟩, fun f hf => ?_⟩
        obtain ⟨f2, rfl⟩ : ∃ f2, f = f2 + 1 := ⟨f - 1, by omega⟩
        rw [f_X1_findName_3, if_neg (by omega), ha, if_neg (by omega), if_pos (by omega), tnc, if_neg (fun h => h ((l_cmp_eq _ _).mpr g))]
      · obtain ⟨v, h1, h2⟩ := ih (i + 1) (by omega) (fun e he => by
          by_cases e2 : e = i
          · subst e2; exact g
          · exact hne e (by omega))
        refine ⟨v, h1, fun f hf => ?_⟩
        obtain ⟨f2, rfl⟩ : ∃ f2, f = f2 + 1 := ⟨f - 1, by omega⟩
        rw [f_X1_findName_3, if_neg (by omega), ha, if_neg (by omega), if_pos (by omega), tnc, if_pos (fun h => g ((l_cmp_eq _ _).mp h)), o_succ (by omega)]
        exact h2 f2 (by omega)
  obtain ⟨v, h1, h2⟩ := loop n 0 (by omega) (fun e he => by omega)
  exact ⟨v, h1, h2 zB (by unfold zB; omega)⟩
/-- where the model keeps the NAMES of a sort -/
def nfr (sort : Nat) : Nat := if sort = 0 then 0 else if sort = 1 then 8 else 18
theorem m_namesFrom {B : AM} {sort : Nat} (hs : sort < 3) : f_X11_namesFrom (sort : Int) B = some ((nfr sort : Int), B) := by
  unfold f_X11_namesFrom nfr
  rcases (by omega : sort = 0 ∨ sort = 1 ∨ sort = 2) with rfl | rfl | rfl <;> rfl
theorem nfr_le {sort : Nat} (hs : sort < 3) : nfr sort ≤ 18 := by
  unfold nfr
  rcases (by omega : sort = 0 ∨ sort = 1 ∨ sort = 2) with rfl | rfl | rfl <;> decide
theorem m_named {B : AM} {b sort n : Nat} (hb : b < 5) (hs : sort < 3) (hn : B 5 (355 * b + sort) = (n : Int)) (h24 : nfr sort + n ≤ 24) : ∃ v, FN (fun i => B 8 (24 * b + nfr sort + i)) (B 0 19) n v ∧ f_X11_named (b : Int) (sort : Int) B = some (v, B) := by
  have a1 : o_add (o_mul 355 (b : Int)) (sort : Int) = ((355 * b + sort : Nat) : Int) := by rw [o_mul_eq (by omega) (by omega), o_add_eq (by omega) (by omega)]; omega
  have loop : ∀ (j i : Nat), i + j = n → (∀ e, e < i → B 8 (24 * b + nfr sort + e) ≠ B 0 19) → ∃ v, FN (fun i => B 8 (24 * b + nfr sort + i)) (B 0 19) n v ∧ ∀ f, j < f → f_X11_named_2 f (b : Int) (sort : Int) (i : Int) B = some (v, B) := by
    intro j
    induction j with
    | zero =>
      intro i hi hne
      refine ⟨-1, Or.inl ⟨rfl, fun e he => hne e (by omega)⟩, fun f hf => ?_⟩
      obtain ⟨f2, rfl⟩ : ∃ f2, f = f2 + 1 := ⟨f - 1, by omega⟩
      rw [f_X11_named_2, a1, if_pos (by omega), tnc, hn, if_pos (by omega)]
    | succ j ih =>
      intro i hi hne
      have ha : o_add (o_add (o_mul 24 (b : Int)) (nfr sort : Int)) (i : Int) = ((24 * b + nfr sort + i : Nat) : Int) := by
        rw [o_mul_eq (by omega) (by omega), o_add_eq (x := 24 * (b : Int)) (by omega) (by omega), o_add_eq (by omega) (by omega)]; omega
      by_cases g : B 8 (24 * b + nfr sort + i) = B 0 19
      · refine ⟨(i : Int), Or.inr ⟨i, by omega, rfl, g, hne⟩, fun f hf => ?_⟩
        obtain ⟨f2, rfl⟩ : ∃ f2, f = f2 + 1 := ⟨f - 1, by omega⟩
        rw [f_X11_named_2, a1, if_pos (by omega), tnc, hn, if_neg (by omega), m_namesFrom hs, bind_s]
        dsimp only
        rw [ha, if_pos (by omega), tnc, if_neg (fun h => h ((l_cmp_eq _ _).mpr g))]
      · obtain ⟨v, h1, h2⟩ := ih (i + 1) (by omega) (fun e he => by
          by_cases e2 : e = i
          · subst e2; exact g
          · exact hne e (by omega))
        refine ⟨v, h1, fun f hf => ?_⟩
        obtain ⟨f2, rfl⟩ : ∃ f2, f = f2 + 1 := ⟨f - 1, by omega⟩
        rw [f_X11_named_2, a1, if_pos (by omega), tnc, hn, if_neg (by omega), m_namesFrom hs, bind_s]
        dsimp only
        rw [ha, if_pos (by omega), tnc, if_pos (fun h => g ((l_cmp_eq _ _).mp h)), o_succ (by omega)]
        exact h2 f2 (by omega)
  obtain ⟨v, h1, h2⟩ := loop n 0 (by omega) (fun e he => by omega)
  exact ⟨v, h1, h2 zB (by unfold zB; omega)⟩
