/-! LIVE: what a plain STEP keeps -/
theorem hitC_hi {c : Nat → Int} {z : Int} {j : Nat} (hI : Ic c) (hz : 0 ≤ z ∧ z < 65536) (h : j < 27 ∨ 47 ≤ j) : hitC c z j = c j := by
  have hc1 := hI.2.1
  by_cases g : 1 ≤ c 1
  · have hw := hitW_r hI hz g
    unfold hitC
    by_cases h1 : hitK c z = 1
    · rw [if_pos h1]; exact cset_ne (by omega)
    · rw [if_neg h1]
      by_cases h2 : hitK c z = 2
      · rw [if_pos h2]; exact cset_ne (by omega)
      · rw [if_neg h2]
  · have hk : hitK c z = 0 := by unfold hitK; rw [if_pos g]
    unfold hitC
    rw [if_neg (by omega), if_neg (by omega)]
theorem mdC_hi {c : Nat → Int} {w j : Nat} (hw : w < 10) (h : j < 27 ∨ 47 ≤ j) : mdC c w j = c j := by
  unfold mdC
  cases mdB c w
  · rfl
  · simp only [if_true]
    rw [cset_ne (by omega), cset_ne (by omega)]
theorem Ic_mdC {c : Nat → Int} (hI : Ic c) {w : Nat} (hw : w < 10) : Ic (mdC c w) := by
  unfold mdC
  cases mdB c w
  · exact hI
  · simp only [if_true]
    exact Ic_slack (Ic_whole hI hw (Or.inr rfl)) hw (by omega)
theorem plZ_r {c : Nat → Int} {z k : Int} (hz : 0 ≤ z ∧ z < 65536) : 0 ≤ plZ c z k ∧ plZ c z k < 65536 := by
  unfold plZ hitZ
  by_cases h : k = 5
  · rw [if_pos h]
    by_cases g : 1 ≤ c 1
    · rw [if_pos g]; exact sdN_r (sdN_r hz)
    · rw [if_neg g]; exact hz
  · rw [if_neg h]; exact hz
