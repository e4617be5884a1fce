theorem l_10_332 : zhas 5048 (Jvm.Cond.methodLink "BellPullHouse" 332 yX10_fewestCuts) = true := by decide +kernel
def f_X10_cuts (a1 : Int) (a2 : Int) (M : AM) : Option (Int × AM) := (f_X10_fewestCuts a1 a2 M).bind fun x1 => if ¬ x1.1 = (-1) then ((f_J6_bitCount_0f7a4 x1.1 x1.2).bind fun x2 => (f_X10_answer x2.1 x2.2).bind fun x3 => some (x3.1, x3.2)) else some ((-1), x1.2)
theorem e_X10_cuts {Y : List (Nat × Nat)} (d : Nat) (a1 : Int) (a2 : Int) (M : AM) (x : Int) (N : AM) (h : f_X10_cuts a1 a2 M = some (x, N)) : Ev Y (d + 4) m_X10_cuts 0 [some (vR 15 20 0), some (vI a1), some (vI a2), none] [] M (some (vI x)) N := by
  unfold f_X10_cuts at h
  refine Z_blk k_X10_cuts 3 (pc' := 3) (lo' := [some (vR 15 20 0), some (vI a1), some (vI a2), none]) (st' := [vI a2, vI a1, vR 15 20 0]) (M1 := M) rfl ?_
  obtain ⟨x1, hx1, h⟩ := Option.bind_eq_some_iff.mp h
  refine Z_callV8 k_X10_cuts k_X10_fewestCuts rfl rfl (l_10_332) (ci := 10) rfl [vI a1, vI a2] [] rfl rfl (Nat.le_of_ble_eq_true rfl) (Nat.le_of_ble_eq_true rfl) (e_X10_fewestCuts (d + 0) a1 a2 M _ _ hx1) ?_
  refine Z_blk k_X10_cuts 3 (pc' := 9) (lo' := [some (vR 15 20 0), some (vI a1), some (vI a2), some (vI x1.1)]) (st' := [vI (-1), vI x1.1]) (M1 := x1.2) rfl ?_
  refine Z_icmp k_X10_cuts rfl 16 rfl (fun hc => ?_) (fun hc => ?_)
  · replace h := of_pos hc h
    refine Z_blk k_X10_cuts 2 (pc' := 18) (lo' := [some (vR 15 20 0), some (vI a1), some (vI a2), some (vI x1.1)]) (st' := [vI x1.1, vR 15 20 0]) (M1 := x1.2) rfl ?_
    obtain ⟨x2, hx2, h⟩ := Option.bind_eq_some_iff.mp h
    refine Z_callS8 k_X10_cuts k_J6_bitCount_0f7a4 rfl rfl (l_10_324) [vI x1.1] [vR 15 20 0] rfl rfl (Nat.le_of_ble_eq_true rfl) (Nat.le_of_ble_eq_true rfl) (e_J6_bitCount_0f7a4 (d + 3) x1.1 x1.2 _ _ hx2) ?_
    obtain ⟨x3, hx3, h⟩ := Option.bind_eq_some_iff.mp h
    refine Z_callV8 k_X10_cuts k_X10_answer rfl rfl (l_10_184) (ci := 10) rfl [vI x2.1] [] rfl rfl (Nat.le_of_ble_eq_true rfl) (Nat.le_of_ble_eq_true rfl) (e_X10_answer (d + 3) x2.1 x2.2 _ _ hx3) ?_
    cases h
    exact Z_ret ⟨Or.inl rfl, _, rfl⟩ rfl
  · replace h := of_neg hc h
    refine Z_blk k_X10_cuts 2 (pc' := 24) (lo' := [some (vR 15 20 0), some (vI a1), some (vI a2), some (vI x1.1)]) (st' := [vI (-1)]) (M1 := x1.2) rfl ?_
    cases h
    exact Z_ret ⟨Or.inl rfl, _, rfl⟩ rfl
def f_X10_cutSet (a1 : Int) (a2 : Int) (M : AM) : Option (Int × AM) := (f_X10_fewestCuts a1 a2 M).bind fun x1 => if ¬ x1.1 = (-1) then ((f_X10_answer x1.1 x1.2).bind fun x2 => some (x2.1, x2.2)) else some ((-1), x1.2)
theorem e_X10_cutSet {Y : List (Nat × Nat)} (d : Nat) (a1 : Int) (a2 : Int) (M : AM) (x : Int) (N : AM) (h : f_X10_cutSet a1 a2 M = some (x, N)) : Ev Y (d + 4) m_X10_cutSet 0 [some (vR 15 20 0), some (vI a1), some (vI a2), none] [] M (some (vI x)) N := by
  unfold f_X10_cutSet at h
  refine Z_blk k_X10_cutSet 3 (pc' := 3) (lo' := [some (vR 15 20 0), some (vI a1), some (vI a2), none]) (st' := [vI a2, vI a1, vR 15 20 0]) (M1 := M) rfl ?_
  obtain ⟨x1, hx1, h⟩ := Option.bind_eq_some_iff.mp h
  refine Z_callV8 k_X10_cutSet k_X10_fewestCuts rfl rfl (l_10_332) (ci := 10) rfl [vI a1, vI a2] [] rfl rfl (Nat.le_of_ble_eq_true rfl) (Nat.le_of_ble_eq_true rfl) (e_X10_fewestCuts (d + 0) a1 a2 M _ _ hx1) ?_
  refine Z_blk k_X10_cutSet 3 (pc' := 9) (lo' := [some (vR 15 20 0), some (vI a1), some (vI a2), some (vI x1.1)]) (st' := [vI (-1), vI x1.1]) (M1 := x1.2) rfl ?_
  refine Z_icmp k_X10_cutSet rfl 16 rfl (fun hc => ?_) (fun hc => ?_)
  · replace h := of_pos hc h
    refine Z_blk k_X10_cutSet 2 (pc' := 18) (lo' := [some (vR 15 20 0), some (vI a1), some (vI a2), some (vI x1.1)]) (st' := [vI x1.1, vR 15 20 0]) (M1 := x1.2) rfl ?_
    obtain ⟨x2, hx2, h⟩ := Option.bind_eq_some_iff.mp h
    refine Z_callV8 k_X10_cutSet k_X10_answer rfl rfl (l_10_184) (ci := 10) rfl [vI x1.1] [] rfl rfl (Nat.le_of_ble_eq_true rfl) (Nat.le_of_ble_eq_true rfl) (e_X10_answer (d + 3) x1.1 x1.2 _ _ hx2) ?_
    cases h
    exact Z_ret ⟨Or.inl rfl, _, rfl⟩ rfl
  · replace h := of_neg hc h
    refine Z_blk k_X10_cutSet 2 (pc' := 21) (lo' := [some (vR 15 20 0), some (vI a1), some (vI a2), some (vI x1.1)]) (st' := [vI (-1)]) (M1 := x1.2) rfl ?_
    cases h
    exact Z_ret ⟨Or.inl rfl, _, rfl⟩ rfl
theorem l_10_339 : zhas 5064 (Jvm.Cond.methodLink "BellPullHouse" 339 yX7_hangSet) = true := by decide +kernel
def f_X10_hangs (a1 : Int) (M : AM) : Option (Int × AM) := (f_X1_isCouple 23 a1 M).bind fun x1 => if ¬ x1.1 = 0 then ((f_X1_isRung 23 a1 x1.2).bind fun x2 => if x2.1 = 0 then ((f_X10_fail 9 x2.2).bind fun x3 => some (x3.1, x3.2)) else ((f_X7_hangSet a1 x2.2).bind fun x4 => (f_X10_answer x4.1 x4.2).bind fun x5 => some (x5.1, x5.2))) else ((f_X10_fail 2 x1.2).bind fun x6 => some (x6.1, x6.2))
theorem e_X10_hangs {Y : List (Nat × Nat)} (d : Nat) (a1 : Int) (M : AM) (x : Int) (N : AM) (h : f_X10_hangs a1 M = some (x, N)) : Ev Y (d + 4) m_X10_hangs 0 [some (vR 15 20 0), some (vI a1)] [] M (some (vI x)) N := by
  unfold f_X10_hangs at h
  refine Z_blk k_X10_hangs 3 (pc' := 5) (lo' := [some (vR 15 20 0), some (vI a1)]) (st' := [vI a1, vR 23 11 0]) (M1 := M) rfl ?_
  obtain ⟨x1, hx1, h⟩ := Option.bind_eq_some_iff.mp h
  refine Z_callV8 k_X10_hangs k_X1_isCouple rfl rfl (l_10_247) (ci := 1) rfl [vI a1] [] rfl rfl (Nat.le_of_ble_eq_true rfl) (Nat.le_of_ble_eq_true rfl) (e_X1_isCouple (d + 3) 23 a1 M _ _ hx1) ?_
  refine Z_if k_X10_hangs rfl 17 rfl (fun hc => ?_) (fun hc => ?_)
  · replace h := of_pos hc h
    refine Z_blk k_X10_hangs 3 (pc' := 22) (lo' := [some (vR 15 20 0), some (vI a1)]) (st' := [vI a1, vR 23 11 0]) (M1 := x1.2) rfl ?_
    obtain ⟨x2, hx2, h⟩ := Option.bind_eq_some_iff.mp h
    refine Z_callV8 k_X10_hangs k_X1_isRung rfl rfl (l_10_262) (ci := 1) rfl [vI a1] [] rfl rfl (Nat.le_of_ble_eq_true rfl) (Nat.le_of_ble_eq_true rfl) (e_X1_isRung (d + 0) 23 a1 x1.2 _ _ hx2) ?_
    refine Z_if k_X10_hangs rfl 47 rfl (fun hc => ?_) (fun hc => ?_)
    · replace h := of_pos hc h
      refine Z_blk k_X10_hangs 2 (pc' := 50) (lo' := [some (vR 15 20 0), some (vI a1)]) (st' := [vI 9, vR 15 20 0]) (M1 := x2.2) rfl ?_
      obtain ⟨x3, hx3, h⟩ := Option.bind_eq_some_iff.mp h
      refine Z_callV8 k_X10_hangs k_X10_fail rfl rfl (l_10_130) (ci := 10) rfl [vI 9] [] rfl rfl (Nat.le_of_ble_eq_true rfl) (Nat.le_of_ble_eq_true rfl) (e_X10_fail (d + 3) 9 x2.2 _ _ hx3) ?_
      cases h
      exact Z_ret ⟨Or.inl rfl, _, rfl⟩ rfl
    · replace h := of_neg hc h
      refine Z_blk k_X10_hangs 6 (pc' := 38) (lo' := [some (vR 15 20 0), some (vI a1)]) (st' := [vI a1, vR 23 11 0, vR 63 17 0, vR 15 20 0]) (M1 := x2.2) rfl ?_
      obtain ⟨x4, hx4, h⟩ := Option.bind_eq_some_iff.mp h
      refine Z_callV8 k_X10_hangs k_X7_hangSet rfl rfl (l_10_339) (ci := 7) rfl [vR 23 11 0, vI a1] [vR 15 20 0] rfl rfl (Nat.le_of_ble_eq_true rfl) (Nat.le_of_ble_eq_true rfl) (e_X7_hangSet (d + 0) a1 x2.2 _ _ hx4) ?_
      obtain ⟨x5, hx5, h⟩ := Option.bind_eq_some_iff.mp h
      refine Z_callV8 k_X10_hangs k_X10_answer rfl rfl (l_10_184) (ci := 10) rfl [vI x4.1] [] rfl rfl (Nat.le_of_ble_eq_true rfl) (Nat.le_of_ble_eq_true rfl) (e_X10_answer (d + 3) x4.1 x4.2 _ _ hx5) ?_
      refine Z_blk k_X10_hangs 1 (pc' := 53) (lo' := [some (vR 15 20 0), some (vI a1)]) (st' := [vI x5.1]) (M1 := x5.2) rfl ?_
      cases h
      exact Z_ret ⟨Or.inl rfl, _, rfl⟩ rfl
  · replace h := of_neg hc h
    refine Z_blk k_X10_hangs 2 (pc' := 13) (lo' := [some (vR 15 20 0), some (vI a1)]) (st' := [vI 2, vR 15 20 0]) (M1 := x1.2) rfl ?_
    obtain ⟨x6, hx6, h⟩ := Option.bind_eq_some_iff.mp h
    refine Z_callV8 k_X10_hangs k_X10_fail rfl rfl (l_10_130) (ci := 10) rfl [vI 2] [] rfl rfl (Nat.le_of_ble_eq_true rfl) (Nat.le_of_ble_eq_true rfl) (e_X10_fail (d + 3) 2 x1.2 _ _ hx6) ?_
    cases h
    exact Z_ret ⟨Or.inl rfl, _, rfl⟩ rfl
theorem l_10_342 : zhas 5077 (Jvm.Cond.methodLink "BellPullHouse" 342 yX7_mostHungOn) = true := by decide +kernel
def f_X10_vital (M : AM) : Option (Int × AM) := (f_X7_mostHungOn M).bind fun x1 => if ¬ x1.1 = (-1) then ((f_X10_answer x1.1 x1.2).bind fun x2 => some (x2.1, x2.2)) else ((f_X10_fail 8 x1.2).bind fun x3 => some (x3.1, x3.2))
theorem e_X10_vital {Y : List (Nat × Nat)} (d : Nat) (M : AM) (x : Int) (N : AM) (h : f_X10_vital M = some (x, N)) : Ev Y (d + 6) m_X10_vital 0 [some (vR 15 20 0), none] [] M (some (vI x)) N := by
  unfold f_X10_vital at h
  refine Z_blk k_X10_vital 4 (pc' := 8) (lo' := [some (vR 15 20 0), none]) (st' := [vR 23 11 0, vR 63 17 0]) (M1 := M) rfl ?_
  obtain ⟨x1, hx1, h⟩ := Option.bind_eq_some_iff.mp h
  refine Z_callV8 k_X10_vital k_X7_mostHungOn rfl rfl (l_10_342) (ci := 7) rfl [vR 23 11 0] [] rfl rfl (Nat.le_of_ble_eq_true rfl) (Nat.le_of_ble_eq_true rfl) (e_X7_mostHungOn (d + 0) M _ _ hx1) ?_
  refine Z_blk k_X10_vital 3 (pc' := 14) (lo' := [some (vR 15 20 0), some (vI x1.1)]) (st' := [vI (-1), vI x1.1]) (M1 := x1.2) rfl ?_
  refine Z_icmp k_X10_vital rfl 26 rfl (fun hc => ?_) (fun hc => ?_)
  · replace h := of_pos hc h
    refine Z_blk k_X10_vital 2 (pc' := 28) (lo' := [some (vR 15 20 0), some (vI x1.1)]) (st' := [vI x1.1, vR 15 20 0]) (M1 := x1.2) rfl ?_
    obtain ⟨x2, hx2, h⟩ := Option.bind_eq_some_iff.mp h
    refine Z_callV8 k_X10_vital k_X10_answer rfl rfl (l_10_184) (ci := 10) rfl [vI x1.1] [] rfl rfl (Nat.le_of_ble_eq_true rfl) (Nat.le_of_ble_eq_true rfl) (e_X10_answer (d + 5) x1.1 x1.2 _ _ hx2) ?_
    cases h
    exact Z_ret ⟨Or.inl rfl, _, rfl⟩ rfl
  · replace h := of_neg hc h
    refine Z_blk k_X10_vital 2 (pc' := 20) (lo' := [some (vR 15 20 0), some (vI x1.1)]) (st' := [vI 8, vR 15 20 0]) (M1 := x1.2) rfl ?_
    obtain ⟨x3, hx3, h⟩ := Option.bind_eq_some_iff.mp h
    refine Z_callV8 k_X10_vital k_X10_fail rfl rfl (l_10_130) (ci := 10) rfl [vI 8] [] rfl rfl (Nat.le_of_ble_eq_true rfl) (Nat.le_of_ble_eq_true rfl) (e_X10_fail (d + 5) 8 x1.2 _ _ hx3) ?_
    refine Z_blk k_X10_vital 1 (pc' := 31) (lo' := [some (vR 15 20 0), some (vI x1.1)]) (st' := [vI x3.1]) (M1 := x3.2) rfl ?_
    cases h
    exact Z_ret ⟨Or.inl rfl, _, rfl⟩ rfl
def f_X10_pulled_17 (M : AM) : Option (Int × AM) := (f_X10_fail 5 M).bind fun x1 => some (x1.1, x1.2)
theorem e_X10_pulled_17 {Y : List (Nat × Nat)} (d : Nat) (M : AM) (x : Int) (N : AM) (h : f_X10_pulled_17 M = some (x, N)) : Ev Y (d + 4) m_X10_pulled 17 [some (vR 15 20 0), none, none, none] [] M (some (vI x)) N := by
  unfold f_X10_pulled_17 at h
  refine Z_blk k_X10_pulled 2 (pc' := 19) (lo' := [some (vR 15 20 0), none, none, none]) (st' := [vI 5, vR 15 20 0]) (M1 := M) rfl ?_
  obtain ⟨x1, hx1, h⟩ := Option.bind_eq_some_iff.mp h
  refine Z_callV8 k_X10_pulled k_X10_fail rfl rfl (l_10_130) (ci := 10) rfl [vI 5] [] rfl rfl (Nat.le_of_ble_eq_true rfl) (Nat.le_of_ble_eq_true rfl) (e_X10_fail (d + 3) 5 M _ _ hx1) ?_
  cases h
  exact Z_ret ⟨Or.inl rfl, _, rfl⟩ rfl
def f_X10_pulled_27 : Nat → Int → Int → Int → AM → Option (Int × AM)
  | 0, _, _, _, _ => none
  | n + 1, a1, a2, a3, M => if M 23 2 ≤ a3 then ((f_X10_answer a2 M).bind fun x1 => some (x1.1, x1.2)) else ((f_X1_heardSet 23 a3 M).bind fun x2 => if ¬ x2.1 = a1 then f_X10_pulled_27 n a1 a2 (o_add a3 1) x2.2 else f_X10_pulled_27 n a1 (o_or a2 (o_shl 1 a3)) (o_add a3 1) x2.2)
theorem e_X10_pulled_27 {Y : List (Nat × Nat)} (d : Nat) : ∀ (n : Nat) (a1 : Int) (a2 : Int) (a3 : Int) (M : AM) (x : Int) (N : AM), f_X10_pulled_27 n a1 a2 a3 M = some (x, N) → Ev Y (d + 4) m_X10_pulled 27 [some (vR 15 20 0), some (vI a1), some (vI a2), some (vI a3)] [] M (some (vI x)) N := by
  intro n
  induction n with
  | zero => intro a1 a2 a3 M x N h; cases h
  | succ n ih =>
    intro a1 a2 a3 M x N h
    simp only [f_X10_pulled_27] at h
    refine Z_blk k_X10_pulled 4 (pc' := 35) (lo' := [some (vR 15 20 0), some (vI a1), some (vI a2), some (vI a3)]) (st' := [vI (M 23 2), vI a3]) (M1 := M) rfl ?_
    refine Z_icmp k_X10_pulled rfl 62 rfl (fun hc => ?_) (fun hc => ?_)
    · replace h := of_pos hc h
      refine Z_blk k_X10_pulled 2 (pc' := 64) (lo' := [some (vR 15 20 0), some (vI a1), some (vI a2), some (vI a3)]) (st' := [vI a2, vR 15 20 0]) (M1 := M) rfl ?_
      obtain ⟨x1, hx1, h⟩ := Option.bind_eq_some_iff.mp h
      refine Z_callV8 k_X10_pulled k_X10_answer rfl rfl (l_10_184) (ci := 10) rfl [vI a2] [] rfl rfl (Nat.le_of_ble_eq_true rfl) (Nat.le_of_ble_eq_true rfl) (e_X10_answer (d + 3) a2 M _ _ hx1) ?_
      cases h
      exact Z_ret ⟨Or.inl rfl, _, rfl⟩ rfl
    · replace h := of_neg hc h
      refine Z_blk k_X10_pulled 3 (pc' := 43) (lo' := [some (vR 15 20 0), some (vI a1), some (vI a2), some (vI a3)]) (st' := [vI a3, vR 23 11 0]) (M1 := M) rfl ?_
      obtain ⟨x2, hx2, h⟩ := Option.bind_eq_some_iff.mp h
      refine Z_callV8 k_X10_pulled k_X1_heardSet rfl rfl (l_10_297) (ci := 1) rfl [vI a3] [] rfl rfl (Nat.le_of_ble_eq_true rfl) (Nat.le_of_ble_eq_true rfl) (e_X1_heardSet (d + 0) 23 a3 M _ _ hx2) ?_
      refine Z_blk k_X10_pulled 1 (pc' := 47) (lo' := [some (vR 15 20 0), some (vI a1), some (vI a2), some (vI a3)]) (st' := [vI a1, vI x2.1]) (M1 := x2.2) rfl ?_
      refine Z_icmp k_X10_pulled rfl 56 rfl (fun hc => ?_) (fun hc => ?_)
      · replace h := of_pos hc h
        refine Z_blk k_X10_pulled 2 (pc' := 27) (lo' := [some (vR 15 20 0), some (vI a1), some (vI a2), some (vI (o_add a3 1))]) (st' := []) (M1 := x2.2) rfl ?_
        refine Z_mask [true, true, true, true] (lo0 := [some (vR 15 20 0), some (vI a1), some (vI a2), some (vI (o_add a3 1))]) rfl ?_
        exact ih a1 a2 (o_add a3 1) x2.2 _ _ h
      · replace h := of_neg hc h
        refine Z_blk k_X10_pulled 8 (pc' := 27) (lo' := [some (vR 15 20 0), some (vI a1), some (vI (o_or a2 (o_shl 1 a3))), some (vI (o_add a3 1))]) (st' := []) (M1 := x2.2) rfl ?_
        refine Z_mask [true, true, true, true] (lo0 := [some (vR 15 20 0), some (vI a1), some (vI (o_or a2 (o_shl 1 a3))), some (vI (o_add a3 1))]) rfl ?_
        exact ih a1 (o_or a2 (o_shl 1 a3)) (o_add a3 1) x2.2 _ _ h
def f_X10_pulled (a1 : Int) (M : AM) : Option (Int × AM) := if a1 < 0 then f_X10_pulled_17 M else (if a1 < o_shl 1 (M 23 2) then f_X10_pulled_27 zB a1 0 0 M else f_X10_pulled_17 M)
theorem e_X10_pulled {Y : List (Nat × Nat)} (d : Nat) (a1 : Int) (M : AM) (x : Int) (N : AM) (h : f_X10_pulled a1 M = some (x, N)) : Ev Y (d + 4) m_X10_pulled 0 [some (vR 15 20 0), some (vI a1), none, none] [] M (some (vI x)) N := by
  unfold f_X10_pulled at h
  refine Z_blk k_X10_pulled 1 (pc' := 1) (lo' := [some (vR 15 20 0), some (vI a1), none, none]) (st' := [vI a1]) (M1 := M) rfl ?_
  refine Z_if k_X10_pulled rfl 17 rfl (fun hc => ?_) (fun hc => ?_)
  · replace h := of_pos hc h
    refine Z_mask [true, false, false, false] (lo0 := [some (vR 15 20 0), none, none, none]) rfl ?_
    exact e_X10_pulled_17 d M _ _ h
  · replace h := of_neg hc h
    refine Z_blk k_X10_pulled 6 (pc' := 14) (lo' := [some (vR 15 20 0), some (vI a1), none, none]) (st' := [vI (o_shl 1 (M 23 2)), vI a1]) (M1 := M) rfl ?_
    refine Z_icmp k_X10_pulled rfl 23 rfl (fun hc => ?_) (fun hc => ?_)
    · replace h := of_pos hc h
      refine Z_blk k_X10_pulled 4 (pc' := 27) (lo' := [some (vR 15 20 0), some (vI a1), some (vI 0), some (vI 0)]) (st' := []) (M1 := M) rfl ?_
      refine Z_mask [true, true, true, true] (lo0 := [some (vR 15 20 0), some (vI a1), some (vI 0), some (vI 0)]) rfl ?_
      exact e_X10_pulled_27 d zB a1 0 0 M _ _ h
    · replace h := of_neg hc h
      refine Z_mask [true, false, false, false] (lo0 := [some (vR 15 20 0), none, none, none]) rfl ?_
      exact e_X10_pulled_17 d M _ _ h
theorem l_10_346 : zhas 5090 (Jvm.Cond.methodLink "BellPullHouse" 346 yX1_answersAnother) = true := by decide +kernel
def f_X10_crossed_64 (k_21 : Int → Int → Int → AM → Option (Int × AM)) (a1 : Int) (a2 : Int) (a3 : Int) (s0 : Int) (M : AM) : Option (Int × AM) := if s0 = 0 then k_21 a1 a2 (o_add a3 1) M else ((f_X1_isHolding 23 a3 M).bind fun x1 => if x1.1 = 0 then k_21 a1 a2 (o_add a3 1) x1.2 else ((f_X1_answersAnother 23 a3 x1.2).bind fun x2 => if x2.1 = 0 then k_21 a1 a2 (o_add a3 1) x2.2 else k_21 a1 (o_or a2 (o_shl 1 a3)) (o_add a3 1) x2.2))
theorem e_X10_crossed_64 {Y : List (Nat × Nat)} (d : Nat) (k_21 : Int → Int → Int → AM → Option (Int × AM)) (hk_21 : ∀ (a1 : Int) (a2 : Int) (a3 : Int) (M : AM) (x : Int) (N : AM), k_21 a1 a2 a3 M = some (x, N) → Ev Y (d + 4) m_X10_crossed 21 [some (vR 15 20 0), some (vI a1), some (vI a2), some (vI a3), none] [] M (some (vI x)) N) (a1 : Int) (a2 : Int) (a3 : Int) (s0 : Int) (M : AM) (x : Int) (N : AM) (h : f_X10_crossed_64 k_21 a1 a2 a3 s0 M = some (x, N)) : Ev Y (d + 4) m_X10_crossed 64 [some (vR 15 20 0), some (vI a1), some (vI a2), some (vI a3), none] [vI s0] M (some (vI x)) N := by
  unfold f_X10_crossed_64 at h
  refine Z_blk k_X10_crossed 2 (pc' := 68) (lo' := [some (vR 15 20 0), some (vI a1), some (vI a2), some (vI a3), some (vI s0)]) (st' := [vI s0]) (M1 := M) rfl ?_
  refine Z_if k_X10_crossed rfl 99 rfl (fun hc => ?_) (fun hc => ?_)
  · replace h := of_pos hc h
    refine Z_blk k_X10_crossed 2 (pc' := 21) (lo' := [some (vR 15 20 0), some (vI a1), some (vI a2), some (vI (o_add a3 1)), some (vI s0)]) (st' := []) (M1 := M) rfl ?_
    refine Z_mask [true, true, true, true, false] (lo0 := [some (vR 15 20 0), some (vI a1), some (vI a2), some (vI (o_add a3 1)), none]) rfl ?_
    exact hk_21 a1 a2 (o_add a3 1) M _ _ h
  · replace h := of_neg hc h
    refine Z_blk k_X10_crossed 3 (pc' := 76) (lo' := [some (vR 15 20 0), some (vI a1), some (vI a2), some (vI a3), some (vI s0)]) (st' := [vI a3, vR 23 11 0]) (M1 := M) rfl ?_
    obtain ⟨x1, hx1, h⟩ := Option.bind_eq_some_iff.mp h
    refine Z_callV8 k_X10_crossed k_X1_isHolding rfl rfl (l_10_259) (ci := 1) rfl [vI a3] [] rfl rfl (Nat.le_of_ble_eq_true rfl) (Nat.le_of_ble_eq_true rfl) (e_X1_isHolding (d + 3) 23 a3 M _ _ hx1) ?_
    refine Z_if k_X10_crossed rfl 99 rfl (fun hc => ?_) (fun hc => ?_)
    · replace h := of_pos hc h
      refine Z_blk k_X10_crossed 2 (pc' := 21) (lo' := [some (vR 15 20 0), some (vI a1), some (vI a2), some (vI (o_add a3 1)), some (vI s0)]) (st' := []) (M1 := x1.2) rfl ?_
      refine Z_mask [true, true, true, true, false] (lo0 := [some (vR 15 20 0), some (vI a1), some (vI a2), some (vI (o_add a3 1)), none]) rfl ?_
      exact hk_21 a1 a2 (o_add a3 1) x1.2 _ _ h
    · replace h := of_neg hc h
      refine Z_blk k_X10_crossed 3 (pc' := 87) (lo' := [some (vR 15 20 0), some (vI a1), some (vI a2), some (vI a3), some (vI s0)]) (st' := [vI a3, vR 23 11 0]) (M1 := x1.2) rfl ?_
      obtain ⟨x2, hx2, h⟩ := Option.bind_eq_some_iff.mp h
      refine Z_callV8 k_X10_crossed k_X1_answersAnother rfl rfl (l_10_346) (ci := 1) rfl [vI a3] [] rfl rfl (Nat.le_of_ble_eq_true rfl) (Nat.le_of_ble_eq_true rfl) (e_X1_answersAnother (d + 0) 23 a3 x1.2 _ _ hx2) ?_
      refine Z_if k_X10_crossed rfl 99 rfl (fun hc => ?_) (fun hc => ?_)
      · replace h := of_pos hc h
        refine Z_blk k_X10_crossed 2 (pc' := 21) (lo' := [some (vR 15 20 0), some (vI a1), some (vI a2), some (vI (o_add a3 1)), some (vI s0)]) (st' := []) (M1 := x2.2) rfl ?_
        refine Z_mask [true, true, true, true, false] (lo0 := [some (vR 15 20 0), some (vI a1), some (vI a2), some (vI (o_add a3 1)), none]) rfl ?_
        exact hk_21 a1 a2 (o_add a3 1) x2.2 _ _ h
      · replace h := of_neg hc h
        refine Z_blk k_X10_crossed 8 (pc' := 21) (lo' := [some (vR 15 20 0), some (vI a1), some (vI (o_or a2 (o_shl 1 a3))), some (vI (o_add a3 1)), some (vI s0)]) (st' := []) (M1 := x2.2) rfl ?_
        refine Z_mask [true, true, true, true, false] (lo0 := [some (vR 15 20 0), some (vI a1), some (vI (o_or a2 (o_shl 1 a3))), some (vI (o_add a3 1)), none]) rfl ?_
        exact hk_21 a1 (o_or a2 (o_shl 1 a3)) (o_add a3 1) x2.2 _ _ h
def f_X10_crossed_21 : Nat → Int → Int → Int → AM → Option (Int × AM)
  | 0, _, _, _, _ => none
  | n + 1, a1, a2, a3, M => if M 23 4 ≤ a3 then ((f_X10_answer a2 M).bind fun x1 => some (x1.1, x1.2)) else (if 0 ≤ a3 ∧ a3 < 6 then ((f_X1_distance 23 a1 (M 28 (Int.toNat a3)) M).bind fun x3 => if x3.2 23 0 < x3.1 then f_X10_crossed_64 (f_X10_crossed_21 n) a1 a2 a3 0 x3.2 else f_X10_crossed_64 (f_X10_crossed_21 n) a1 a2 a3 1 x3.2) else none)
theorem e_X10_crossed_21 {Y : List (Nat × Nat)} (d : Nat) : ∀ (n : Nat) (a1 : Int) (a2 : Int) (a3 : Int) (M : AM) (x : Int) (N : AM), f_X10_crossed_21 n a1 a2 a3 M = some (x, N) → Ev Y (d + 4) m_X10_crossed 21 [some (vR 15 20 0), some (vI a1), some (vI a2), some (vI a3), none] [] M (some (vI x)) N := by
  intro n
  induction n with
  | zero => intro a1 a2 a3 M x N h; cases h
  | succ n ih =>
    intro a1 a2 a3 M x N h
    simp only [f_X10_crossed_21] at h
    refine Z_blk k_X10_crossed 4 (pc' := 29) (lo' := [some (vR 15 20 0), some (vI a1), some (vI a2), some (vI a3), none]) (st' := [vI (M 23 4), vI a3]) (M1 := M) rfl ?_
    refine Z_icmp k_X10_crossed rfl 105 rfl (fun hc => ?_) (fun hc => ?_)
    · replace h := of_pos hc h
      refine Z_blk k_X10_crossed 2 (pc' := 107) (lo' := [some (vR 15 20 0), some (vI a1), some (vI a2), some (vI a3), none]) (st' := [vI a2, vR 15 20 0]) (M1 := M) rfl ?_
      obtain ⟨x1, hx1, h⟩ := Option.bind_eq_some_iff.mp h
      refine Z_callV8 k_X10_crossed k_X10_answer rfl rfl (l_10_184) (ci := 10) rfl [vI a2] [] rfl rfl (Nat.le_of_ble_eq_true rfl) (Nat.le_of_ble_eq_true rfl) (e_X10_answer (d + 3) a2 M _ _ hx1) ?_
      cases h
      exact Z_ret ⟨Or.inl rfl, _, rfl⟩ rfl
    · replace h := of_neg hc h
      refine Z_blk k_X10_crossed 7 (pc' := 45) (lo' := [some (vR 15 20 0), some (vI a1), some (vI a2), some (vI a3), none]) (st' := [vI a3, vR 28 0 6, vI a1, vR 23 11 0]) (M1 := M) rfl ?_
      obtain ⟨hc2, h⟩ := of_grd h
      refine Z_one k_X10_crossed rfl (pc' := 46) (lo' := [some (vR 15 20 0), some (vI a1), some (vI a2), some (vI a3), none]) (st' := [vI (M 28 (Int.toNat a3)), vI a1, vR 23 11 0]) (M1 := M) (if_pos hc2) ?_
      obtain ⟨x3, hx3, h⟩ := Option.bind_eq_some_iff.mp h
      refine Z_callV8 k_X10_crossed k_X1_distance rfl rfl (l_10_294) (ci := 1) rfl [vI a1, vI (M 28 (Int.toNat a3))] [] rfl rfl (Nat.le_of_ble_eq_true rfl) (Nat.le_of_ble_eq_true rfl) (e_X1_distance (d + 1) 23 a1 (M 28 (Int.toNat a3)) M _ _ hx3) ?_
      refine Z_blk k_X10_crossed 3 (pc' := 56) (lo' := [some (vR 15 20 0), some (vI a1), some (vI a2), some (vI a3), none]) (st' := [vI (x3.2 23 0), vI x3.1]) (M1 := x3.2) rfl ?_
      refine Z_icmp k_X10_crossed rfl 63 rfl (fun hc => ?_) (fun hc => ?_)
      · replace h := of_pos hc h
        refine Z_blk k_X10_crossed 1 (pc' := 64) (lo' := [some (vR 15 20 0), some (vI a1), some (vI a2), some (vI a3), none]) (st' := [vI 0]) (M1 := x3.2) rfl ?_
        refine Z_mask [true, true, true, true, false] (lo0 := [some (vR 15 20 0), some (vI a1), some (vI a2), some (vI a3), none]) rfl ?_
        exact e_X10_crossed_64 d (f_X10_crossed_21 n) ih a1 a2 a3 0 x3.2 _ _ h
      · replace h := of_neg hc h
        refine Z_blk k_X10_crossed 2 (pc' := 64) (lo' := [some (vR 15 20 0), some (vI a1), some (vI a2), some (vI a3), none]) (st' := [vI 1]) (M1 := x3.2) rfl ?_
        refine Z_mask [true, true, true, true, false] (lo0 := [some (vR 15 20 0), some (vI a1), some (vI a2), some (vI a3), none]) rfl ?_
        exact e_X10_crossed_64 d (f_X10_crossed_21 n) ih a1 a2 a3 1 x3.2 _ _ h
def f_X10_crossed (a1 : Int) (M : AM) : Option (Int × AM) := (f_X1_isRoom 23 a1 M).bind fun x1 => if ¬ x1.1 = 0 then f_X10_crossed_21 zB a1 0 0 x1.2 else ((f_X10_fail 2 x1.2).bind fun x2 => some (x2.1, x2.2))
theorem e_X10_crossed {Y : List (Nat × Nat)} (d : Nat) (a1 : Int) (M : AM) (x : Int) (N : AM) (h : f_X10_crossed a1 M = some (x, N)) : Ev Y (d + 4) m_X10_crossed 0 [some (vR 15 20 0), some (vI a1), none, none, none] [] M (some (vI x)) N := by
  unfold f_X10_crossed at h
  refine Z_blk k_X10_crossed 3 (pc' := 5) (lo' := [some (vR 15 20 0), some (vI a1), none, none, none]) (st' := [vI a1, vR 23 11 0]) (M1 := M) rfl ?_
  obtain ⟨x1, hx1, h⟩ := Option.bind_eq_some_iff.mp h
  refine Z_callV8 k_X10_crossed k_X1_isRoom rfl rfl (l_10_287) (ci := 1) rfl [vI a1] [] rfl rfl (Nat.le_of_ble_eq_true rfl) (Nat.le_of_ble_eq_true rfl) (e_X1_isRoom (d + 3) 23 a1 M _ _ hx1) ?_
  refine Z_if k_X10_crossed rfl 17 rfl (fun hc => ?_) (fun hc => ?_)
  · replace h := of_pos hc h
    refine Z_blk k_X10_crossed 4 (pc' := 21) (lo' := [some (vR 15 20 0), some (vI a1), some (vI 0), some (vI 0), none]) (st' := []) (M1 := x1.2) rfl ?_
    refine Z_mask [true, true, true, true, false] (lo0 := [some (vR 15 20 0), some (vI a1), some (vI 0), some (vI 0), none]) rfl ?_
    exact e_X10_crossed_21 d zB a1 0 0 x1.2 _ _ h
  · replace h := of_neg hc h
    refine Z_blk k_X10_crossed 2 (pc' := 13) (lo' := [some (vR 15 20 0), some (vI a1), none, none, none]) (st' := [vI 2, vR 15 20 0]) (M1 := x1.2) rfl ?_
    obtain ⟨x2, hx2, h⟩ := Option.bind_eq_some_iff.mp h
    refine Z_callV8 k_X10_crossed k_X10_fail rfl rfl (l_10_130) (ci := 10) rfl [vI 2] [] rfl rfl (Nat.le_of_ble_eq_true rfl) (Nat.le_of_ble_eq_true rfl) (e_X10_fail (d + 3) 2 x1.2 _ _ hx2) ?_
    cases h
    exact Z_ret ⟨Or.inl rfl, _, rfl⟩ rfl
theorem l_10_349 : zhas 5099 (Jvm.Cond.methodLink "BellPullHouse" 349 yX4_findAll) = true := by decide +kernel
def f_X10_pair (a1 : Int) (M : AM) : Option (Int × AM) := (f_X1_isCouple 23 a1 M).bind fun x1 => if ¬ x1.1 = 0 then ((f_X4_findAll x1.2).bind fun x2 => if 0 ≤ a1 ∧ a1 < 6 then (if ¬ x2 66 (Int.toNat a1) = (-1) then ((f_X10_answer (x2 66 (Int.toNat a1)) x2).bind fun x4 => some (x4.1, x4.2)) else ((f_X10_fail 8 x2).bind fun x5 => some (x5.1, x5.2))) else none) else ((f_X10_fail 2 x1.2).bind fun x6 => some (x6.1, x6.2))
theorem e_X10_pair {Y : List (Nat × Nat)} (d : Nat) (a1 : Int) (M : AM) (x : Int) (N : AM) (h : f_X10_pair a1 M = some (x, N)) : Ev Y (d + 6) m_X10_pair 0 [some (vR 15 20 0), some (vI a1), none] [] M (some (vI x)) N := by
  unfold f_X10_pair at h
  refine Z_blk k_X10_pair 3 (pc' := 5) (lo' := [some (vR 15 20 0), some (vI a1), none]) (st' := [vI a1, vR 23 11 0]) (M1 := M) rfl ?_
  obtain ⟨x1, hx1, h⟩ := Option.bind_eq_some_iff.mp h
  refine Z_callV8 k_X10_pair k_X1_isCouple rfl rfl (l_10_247) (ci := 1) rfl [vI a1] [] rfl rfl (Nat.le_of_ble_eq_true rfl) (Nat.le_of_ble_eq_true rfl) (e_X1_isCouple (d + 5) 23 a1 M _ _ hx1) ?_
  refine Z_if k_X10_pair rfl 17 rfl (fun hc => ?_) (fun hc => ?_)
  · replace h := of_pos hc h
    refine Z_blk k_X10_pair 4 (pc' := 25) (lo' := [some (vR 15 20 0), some (vI a1), none]) (st' := [vR 23 11 0, vR 65 14 0]) (M1 := x1.2) rfl ?_
    obtain ⟨x2, hx2, h⟩ := Option.bind_eq_some_iff.mp h
    refine Z_callV8 k_X10_pair k_X4_findAll rfl rfl (l_10_349) (ci := 4) rfl [vR 23 11 0] [] rfl rfl (Nat.le_of_ble_eq_true rfl) (Nat.le_of_ble_eq_true rfl) (e_X4_findAll (d + 0) x1.2 _ hx2) ?_
    refine Z_blk k_X10_pair 4 (pc' := 36) (lo' := [some (vR 15 20 0), some (vI a1), none]) (st' := [vI a1, vR 66 0 6]) (M1 := x2) rfl ?_
    obtain ⟨hc3, h⟩ := of_grd h
    refine Z_one k_X10_pair rfl (pc' := 37) (lo' := [some (vR 15 20 0), some (vI a1), none]) (st' := [vI (x2 66 (Int.toNat a1))]) (M1 := x2) (if_pos hc3) ?_
    refine Z_blk k_X10_pair 3 (pc' := 40) (lo' := [some (vR 15 20 0), some (vI a1), some (vI (x2 66 (Int.toNat a1)))]) (st' := [vI (-1), vI (x2 66 (Int.toNat a1))]) (M1 := x2) rfl ?_
    refine Z_icmp k_X10_pair rfl 52 rfl (fun hc => ?_) (fun hc => ?_)
    · replace h := of_pos hc h
      refine Z_blk k_X10_pair 2 (pc' := 54) (lo' := [some (vR 15 20 0), some (vI a1), some (vI (x2 66 (Int.toNat a1)))]) (st' := [vI (x2 66 (Int.toNat a1)), vR 15 20 0]) (M1 := x2) rfl ?_
      obtain ⟨x4, hx4, h⟩ := Option.bind_eq_some_iff.mp h
      refine Z_callV8 k_X10_pair k_X10_answer rfl rfl (l_10_184) (ci := 10) rfl [vI (x2 66 (Int.toNat a1))] [] rfl rfl (Nat.le_of_ble_eq_true rfl) (Nat.le_of_ble_eq_true rfl) (e_X10_answer (d + 5) (x2 66 (Int.toNat a1)) x2 _ _ hx4) ?_
      cases h
      exact Z_ret ⟨Or.inl rfl, _, rfl⟩ rfl
    · replace h := of_neg hc h
      refine Z_blk k_X10_pair 2 (pc' := 46) (lo' := [some (vR 15 20 0), some (vI a1), some (vI (x2 66 (Int.toNat a1)))]) (st' := [vI 8, vR 15 20 0]) (M1 := x2) rfl ?_
      obtain ⟨x5, hx5, h⟩ := Option.bind_eq_some_iff.mp h
      refine Z_callV8 k_X10_pair k_X10_fail rfl rfl (l_10_130) (ci := 10) rfl [vI 8] [] rfl rfl (Nat.le_of_ble_eq_true rfl) (Nat.le_of_ble_eq_true rfl) (e_X10_fail (d + 5) 8 x2 _ _ hx5) ?_
      refine Z_blk k_X10_pair 1 (pc' := 57) (lo' := [some (vR 15 20 0), some (vI a1), some (vI (x2 66 (Int.toNat a1)))]) (st' := [vI x5.1]) (M1 := x5.2) rfl ?_
      cases h
      exact Z_ret ⟨Or.inl rfl, _, rfl⟩ rfl
  · replace h := of_neg hc h
    refine Z_blk k_X10_pair 2 (pc' := 13) (lo' := [some (vR 15 20 0), some (vI a1), none]) (st' := [vI 2, vR 15 20 0]) (M1 := x1.2) rfl ?_
    obtain ⟨x6, hx6, h⟩ := Option.bind_eq_some_iff.mp h
    refine Z_callV8 k_X10_pair k_X10_fail rfl rfl (l_10_130) (ci := 10) rfl [vI 2] [] rfl rfl (Nat.le_of_ble_eq_true rfl) (Nat.le_of_ble_eq_true rfl) (e_X10_fail (d + 5) 2 x1.2 _ _ hx6) ?_
    cases h
    exact Z_ret ⟨Or.inl rfl, _, rfl⟩ rfl
def f_X10_swapped_15 : Nat → Int → Int → AM → Option (Int × AM)
  | 0, _, _, _ => none
  | n + 1, a1, a2, M => if M 23 4 ≤ a2 then ((f_X10_answer a1 M).bind fun x1 => some (x1.1, x1.2)) else (if 0 ≤ a2 ∧ a2 < 6 then (if M 66 (Int.toNat a2) = (-1) then f_X10_swapped_15 n a1 (o_add a2 1) M else (if M 66 (Int.toNat a2) = a2 then f_X10_swapped_15 n a1 (o_add a2 1) M else f_X10_swapped_15 n (o_add a1 1) (o_add a2 1) M)) else none)
theorem e_X10_swapped_15 {Y : List (Nat × Nat)} (d : Nat) : ∀ (n : Nat) (a1 : Int) (a2 : Int) (M : AM) (x : Int) (N : AM), f_X10_swapped_15 n a1 a2 M = some (x, N) → Ev Y (d + 6) m_X10_swapped 15 [some (vR 15 20 0), some (vI a1), some (vI a2)] [] M (some (vI x)) N := by
  intro n
  induction n with
  | zero => intro a1 a2 M x N h; cases h
  | succ n ih =>
    intro a1 a2 M x N h
    simp only [f_X10_swapped_15] at h
    refine Z_blk k_X10_swapped 4 (pc' := 23) (lo' := [some (vR 15 20 0), some (vI a1), some (vI a2)]) (st' := [vI (M 23 4), vI a2]) (M1 := M) rfl ?_
    refine Z_icmp k_X10_swapped rfl 61 rfl (fun hc => ?_) (fun hc => ?_)
    · replace h := of_pos hc h
      refine Z_blk k_X10_swapped 2 (pc' := 63) (lo' := [some (vR 15 20 0), some (vI a1), some (vI a2)]) (st' := [vI a1, vR 15 20 0]) (M1 := M) rfl ?_
      obtain ⟨x1, hx1, h⟩ := Option.bind_eq_some_iff.mp h
      refine Z_callV8 k_X10_swapped k_X10_answer rfl rfl (l_10_184) (ci := 10) rfl [vI a1] [] rfl rfl (Nat.le_of_ble_eq_true rfl) (Nat.le_of_ble_eq_true rfl) (e_X10_answer (d + 5) a1 M _ _ hx1) ?_
      cases h
      exact Z_ret ⟨Or.inl rfl, _, rfl⟩ rfl
    · replace h := of_neg hc h
      refine Z_blk k_X10_swapped 4 (pc' := 34) (lo' := [some (vR 15 20 0), some (vI a1), some (vI a2)]) (st' := [vI a2, vR 66 0 6]) (M1 := M) rfl ?_
      obtain ⟨hc2, h⟩ := of_grd h
      refine Z_one k_X10_swapped rfl (pc' := 35) (lo' := [some (vR 15 20 0), some (vI a1), some (vI a2)]) (st' := [vI (M 66 (Int.toNat a2))]) (M1 := M) (if_pos hc2) ?_
      refine Z_blk k_X10_swapped 1 (pc' := 36) (lo' := [some (vR 15 20 0), some (vI a1), some (vI a2)]) (st' := [vI (-1), vI (M 66 (Int.toNat a2))]) (M1 := M) rfl ?_
      refine Z_icmp k_X10_swapped rfl 55 rfl (fun hc => ?_) (fun hc => ?_)
      · replace h := of_pos hc h
        refine Z_blk k_X10_swapped 2 (pc' := 15) (lo' := [some (vR 15 20 0), some (vI a1), some (vI (o_add a2 1))]) (st' := []) (M1 := M) rfl ?_
        refine Z_mask [true, true, true] (lo0 := [some (vR 15 20 0), some (vI a1), some (vI (o_add a2 1))]) rfl ?_
        exact ih a1 (o_add a2 1) M _ _ h
      · replace h := of_neg hc h
        refine Z_blk k_X10_swapped 4 (pc' := 47) (lo' := [some (vR 15 20 0), some (vI a1), some (vI a2)]) (st' := [vI a2, vR 66 0 6]) (M1 := M) rfl ?_
        refine Z_one k_X10_swapped rfl (pc' := 48) (lo' := [some (vR 15 20 0), some (vI a1), some (vI a2)]) (st' := [vI (M 66 (Int.toNat a2))]) (M1 := M) (if_pos hc2) ?_
        refine Z_blk k_X10_swapped 1 (pc' := 49) (lo' := [some (vR 15 20 0), some (vI a1), some (vI a2)]) (st' := [vI a2, vI (M 66 (Int.toNat a2))]) (M1 := M) rfl ?_
        refine Z_icmp k_X10_swapped rfl 55 rfl (fun hc => ?_) (fun hc => ?_)
        · replace h := of_pos hc h
          refine Z_blk k_X10_swapped 2 (pc' := 15) (lo' := [some (vR 15 20 0), some (vI a1), some (vI (o_add a2 1))]) (st' := []) (M1 := M) rfl ?_
          refine Z_mask [true, true, true] (lo0 := [some (vR 15 20 0), some (vI a1), some (vI (o_add a2 1))]) rfl ?_
          exact ih a1 (o_add a2 1) M _ _ h
        · replace h := of_neg hc h
          refine Z_blk k_X10_swapped 3 (pc' := 15) (lo' := [some (vR 15 20 0), some (vI (o_add a1 1)), some (vI (o_add a2 1))]) (st' := []) (M1 := M) rfl ?_
          refine Z_mask [true, true, true] (lo0 := [some (vR 15 20 0), some (vI (o_add a1 1)), some (vI (o_add a2 1))]) rfl ?_
          exact ih (o_add a1 1) (o_add a2 1) M _ _ h
def f_X10_swapped (M : AM) : Option (Int × AM) := (f_X4_findAll M).bind fun x1 => f_X10_swapped_15 zB 0 0 x1
theorem e_X10_swapped {Y : List (Nat × Nat)} (d : Nat) (M : AM) (x : Int) (N : AM) (h : f_X10_swapped M = some (x, N)) : Ev Y (d + 6) m_X10_swapped 0 [some (vR 15 20 0), none, none] [] M (some (vI x)) N := by
  unfold f_X10_swapped at h
  refine Z_blk k_X10_swapped 4 (pc' := 8) (lo' := [some (vR 15 20 0), none, none]) (st' := [vR 23 11 0, vR 65 14 0]) (M1 := M) rfl ?_
  obtain ⟨x1, hx1, h⟩ := Option.bind_eq_some_iff.mp h
  refine Z_callV8 k_X10_swapped k_X4_findAll rfl rfl (l_10_349) (ci := 4) rfl [vR 23 11 0] [] rfl rfl (Nat.le_of_ble_eq_true rfl) (Nat.le_of_ble_eq_true rfl) (e_X4_findAll (d + 0) M _ hx1) ?_
  refine Z_blk k_X10_swapped 4 (pc' := 15) (lo' := [some (vR 15 20 0), some (vI 0), some (vI 0)]) (st' := []) (M1 := x1) rfl ?_
  refine Z_mask [true, true, true] (lo0 := [some (vR 15 20 0), some (vI 0), some (vI 0)]) rfl ?_
  exact e_X10_swapped_15 d zB 0 0 x1 _ _ h
theorem l_10_355 : zhas 5125 (Jvm.Cond.methodLink "BellPullHouse" 355 yX7_playOut) = true := by decide +kernel
def f_X10_game_9 (M : AM) : Option (Int × AM) := (f_X10_fail 5 M).bind fun x1 => some (x1.1, x1.2)
theorem e_X10_game_9 {Y : List (Nat × Nat)} (d : Nat) (M : AM) (x : Int) (N : AM) (h : f_X10_game_9 M = some (x, N)) : Ev Y (d + 16) m_X10_game 9 [some (vR 15 20 0), none] [] M (some (vI x)) N := by
  unfold f_X10_game_9 at h
  refine Z_blk k_X10_game 2 (pc' := 11) (lo' := [some (vR 15 20 0), none]) (st' := [vI 5, vR 15 20 0]) (M1 := M) rfl ?_
  obtain ⟨x1, hx1, h⟩ := Option.bind_eq_some_iff.mp h
  refine Z_callV8 k_X10_game k_X10_fail rfl rfl (l_10_130) (ci := 10) rfl [vI 5] [] rfl rfl (Nat.le_of_ble_eq_true rfl) (Nat.le_of_ble_eq_true rfl) (e_X10_fail (d + 15) 5 M _ _ hx1) ?_
  cases h
  exact Z_ret ⟨Or.inl rfl, _, rfl⟩ rfl
def f_X10_game (a1 : Int) (M : AM) : Option (Int × AM) := if a1 < 0 then f_X10_game_9 M else (if a1 ≤ 3 then ((f_X7_playOut a1 M).bind fun x1 => (f_X10_answer (x1 63 1) x1).bind fun x2 => some (x2.1, x2.2)) else f_X10_game_9 M)
theorem e_X10_game {Y : List (Nat × Nat)} (d : Nat) (a1 : Int) (M : AM) (x : Int) (N : AM) (h : f_X10_game a1 M = some (x, N)) : Ev Y (d + 16) m_X10_game 0 [some (vR 15 20 0), some (vI a1)] [] M (some (vI x)) N := by
  unfold f_X10_game at h
  refine Z_blk k_X10_game 1 (pc' := 1) (lo' := [some (vR 15 20 0), some (vI a1)]) (st' := [vI a1]) (M1 := M) rfl ?_
  refine Z_if k_X10_game rfl 9 rfl (fun hc => ?_) (fun hc => ?_)
  · replace h := of_pos hc h
    refine Z_mask [true, false] (lo0 := [some (vR 15 20 0), none]) rfl ?_
    exact e_X10_game_9 d M _ _ h
  · replace h := of_neg hc h
    refine Z_blk k_X10_game 2 (pc' := 6) (lo' := [some (vR 15 20 0), some (vI a1)]) (st' := [vI 3, vI a1]) (M1 := M) rfl ?_
    refine Z_icmp k_X10_game rfl 15 rfl (fun hc => ?_) (fun hc => ?_)
    · replace h := of_pos hc h
      refine Z_blk k_X10_game 5 (pc' := 24) (lo' := [some (vR 15 20 0), some (vI a1)]) (st' := [vI a1, vR 23 11 0, vR 63 17 0]) (M1 := M) rfl ?_
      obtain ⟨x1, hx1, h⟩ := Option.bind_eq_some_iff.mp h
      refine Z_callV8 k_X10_game k_X7_playOut rfl rfl (l_10_355) (ci := 7) rfl [vR 23 11 0, vI a1] [] rfl rfl (Nat.le_of_ble_eq_true rfl) (Nat.le_of_ble_eq_true rfl) (e_X7_playOut (d + 0) a1 M _ hx1) ?_
      refine Z_blk k_X10_game 4 (pc' := 35) (lo' := [some (vR 15 20 0), some (vI a1)]) (st' := [vI (x1 63 1), vR 15 20 0]) (M1 := x1) rfl ?_
      obtain ⟨x2, hx2, h⟩ := Option.bind_eq_some_iff.mp h
      refine Z_callV8 k_X10_game k_X10_answer rfl rfl (l_10_184) (ci := 10) rfl [vI (x1 63 1)] [] rfl rfl (Nat.le_of_ble_eq_true rfl) (Nat.le_of_ble_eq_true rfl) (e_X10_answer (d + 15) (x1 63 1) x1 _ _ hx2) ?_
      cases h
      exact Z_ret ⟨Or.inl rfl, _, rfl⟩ rfl
    · replace h := of_neg hc h
      refine Z_mask [true, false] (lo0 := [some (vR 15 20 0), none]) rfl ?_
      exact e_X10_game_9 d M _ _ h
def f_X10_moveOf_10 (M : AM) : Option (Int × AM) := (f_X10_fail 5 M).bind fun x1 => some (x1.1, x1.2)
theorem e_X10_moveOf_10 {Y : List (Nat × Nat)} (d : Nat) (M : AM) (x : Int) (N : AM) (h : f_X10_moveOf_10 M = some (x, N)) : Ev Y (d + 16) m_X10_moveOf 10 [some (vR 15 20 0), none] [] M (some (vI x)) N := by
  unfold f_X10_moveOf_10 at h
  refine Z_blk k_X10_moveOf 2 (pc' := 12) (lo' := [some (vR 15 20 0), none]) (st' := [vI 5, vR 15 20 0]) (M1 := M) rfl ?_
  obtain ⟨x1, hx1, h⟩ := Option.bind_eq_some_iff.mp h
  refine Z_callV8 k_X10_moveOf k_X10_fail rfl rfl (l_10_130) (ci := 10) rfl [vI 5] [] rfl rfl (Nat.le_of_ble_eq_true rfl) (Nat.le_of_ble_eq_true rfl) (e_X10_fail (d + 15) 5 M _ _ hx1) ?_
  cases h
  exact Z_ret ⟨Or.inl rfl, _, rfl⟩ rfl
def f_X10_moveOf (a1 : Int) (M : AM) : Option (Int × AM) := if a1 < 1 then f_X10_moveOf_10 M else (if a1 ≤ 3 then ((f_X7_playOut a1 M).bind fun x1 => if ¬ x1 63 2 = (-1) then ((f_X10_answer (x1 63 2) x1).bind fun x2 => some (x2.1, x2.2)) else ((f_X10_fail 8 x1).bind fun x3 => some (x3.1, x3.2))) else f_X10_moveOf_10 M)
theorem e_X10_moveOf {Y : List (Nat × Nat)} (d : Nat) (a1 : Int) (M : AM) (x : Int) (N : AM) (h : f_X10_moveOf a1 M = some (x, N)) : Ev Y (d + 16) m_X10_moveOf 0 [some (vR 15 20 0), some (vI a1)] [] M (some (vI x)) N := by
  unfold f_X10_moveOf at h
  refine Z_blk k_X10_moveOf 2 (pc' := 2) (lo' := [some (vR 15 20 0), some (vI a1)]) (st' := [vI 1, vI a1]) (M1 := M) rfl ?_
  refine Z_icmp k_X10_moveOf rfl 10 rfl (fun hc => ?_) (fun hc => ?_)
  · replace h := of_pos hc h
    refine Z_mask [true, false] (lo0 := [some (vR 15 20 0), none]) rfl ?_
    exact e_X10_moveOf_10 d M _ _ h
  · replace h := of_neg hc h
    refine Z_blk k_X10_moveOf 2 (pc' := 7) (lo' := [some (vR 15 20 0), some (vI a1)]) (st' := [vI 3, vI a1]) (M1 := M) rfl ?_
    refine Z_icmp k_X10_moveOf rfl 16 rfl (fun hc => ?_) (fun hc => ?_)
    · replace h := of_pos hc h
      refine Z_blk k_X10_moveOf 5 (pc' := 25) (lo' := [some (vR 15 20 0), some (vI a1)]) (st' := [vI a1, vR 23 11 0, vR 63 17 0]) (M1 := M) rfl ?_
      obtain ⟨x1, hx1, h⟩ := Option.bind_eq_some_iff.mp h
      refine Z_callV8 k_X10_moveOf k_X7_playOut rfl rfl (l_10_355) (ci := 7) rfl [vR 23 11 0, vI a1] [] rfl rfl (Nat.le_of_ble_eq_true rfl) (Nat.le_of_ble_eq_true rfl) (e_X7_playOut (d + 0) a1 M _ hx1) ?_
      refine Z_blk k_X10_moveOf 4 (pc' := 36) (lo' := [some (vR 15 20 0), some (vI a1)]) (st' := [vI (-1), vI (x1 63 2)]) (M1 := x1) rfl ?_
      refine Z_icmp k_X10_moveOf rfl 48 rfl (fun hc => ?_) (fun hc => ?_)
      · replace h := of_pos hc h
        refine Z_blk k_X10_moveOf 4 (pc' := 56) (lo' := [some (vR 15 20 0), some (vI a1)]) (st' := [vI (x1 63 2), vR 15 20 0]) (M1 := x1) rfl ?_
        obtain ⟨x2, hx2, h⟩ := Option.bind_eq_some_iff.mp h
        refine Z_callV8 k_X10_moveOf k_X10_answer rfl rfl (l_10_184) (ci := 10) rfl [vI (x1 63 2)] [] rfl rfl (Nat.le_of_ble_eq_true rfl) (Nat.le_of_ble_eq_true rfl) (e_X10_answer (d + 15) (x1 63 2) x1 _ _ hx2) ?_
        cases h
        exact Z_ret ⟨Or.inl rfl, _, rfl⟩ rfl
      · replace h := of_neg hc h
        refine Z_blk k_X10_moveOf 2 (pc' := 42) (lo' := [some (vR 15 20 0), some (vI a1)]) (st' := [vI 8, vR 15 20 0]) (M1 := x1) rfl ?_
        obtain ⟨x3, hx3, h⟩ := Option.bind_eq_some_iff.mp h
        refine Z_callV8 k_X10_moveOf k_X10_fail rfl rfl (l_10_130) (ci := 10) rfl [vI 8] [] rfl rfl (Nat.le_of_ble_eq_true rfl) (Nat.le_of_ble_eq_true rfl) (e_X10_fail (d + 15) 8 x1 _ _ hx3) ?_
        refine Z_blk k_X10_moveOf 1 (pc' := 59) (lo' := [some (vR 15 20 0), some (vI a1)]) (st' := [vI x3.1]) (M1 := x3.2) rfl ?_
        cases h
        exact Z_ret ⟨Or.inl rfl, _, rfl⟩ rfl
    · replace h := of_neg hc h
      refine Z_mask [true, false] (lo0 := [some (vR 15 20 0), none]) rfl ?_
      exact e_X10_moveOf_10 d M _ _ h
def f_X10_commonDivisor_9 : Nat → Int → Int → Int → AM → Option (Int × AM)
  | 0, _, _, _, _ => none
  | n + 1, a4, a6, a8, M => if 200 ≤ a8 then some (a4, M) else (if l_cmp a6 0 = 0 then some (a4, M) else (if a6 ≠ 0 then f_X10_commonDivisor_9 n a6 (l_rem a4 a6) (o_add a8 1) M else none))
theorem e_X10_commonDivisor_9 {Y : List (Nat × Nat)} (d : Nat) : ∀ (n : Nat) (a4 : Int) (a6 : Int) (a8 : Int) (M : AM) (x : Int) (N : AM), f_X10_commonDivisor_9 n a4 a6 a8 M = some (x, N) → Ev Y (d + 0) m_X10_commonDivisor 9 [none, none, none, none, some (vL a4), none, some (vL a6), none, some (vI a8), none, none] [] M (some (vL x)) N := by
  intro n
  induction n with
  | zero => intro a4 a6 a8 M x N h; cases h
  | succ n ih =>
    intro a4 a6 a8 M x N h
    simp only [f_X10_commonDivisor_9] at h
    refine Z_blk k_X10_commonDivisor 2 (pc' := 14) (lo' := [none, none, none, none, some (vL a4), none, some (vL a6), none, some (vI a8), none, none]) (st' := [vI 200, vI a8]) (M1 := M) rfl ?_
    refine Z_icmp k_X10_commonDivisor rfl 45 rfl (fun hc => ?_) (fun hc => ?_)
    · replace h := of_pos hc h
      refine Z_blk k_X10_commonDivisor 1 (pc' := 47) (lo' := [none, none, none, none, some (vL a4), none, some (vL a6), none, some (vI a8), none, none]) (st' := [vL a4]) (M1 := M) rfl ?_
      cases h
      exact Z_ret ⟨rfl, _, rfl⟩ rfl
    · replace h := of_neg hc h
      refine Z_blk k_X10_commonDivisor 3 (pc' := 21) (lo' := [none, none, none, none, some (vL a4), none, some (vL a6), none, some (vI a8), none, none]) (st' := [vI (l_cmp a6 0)]) (M1 := M) rfl ?_
      refine Z_if k_X10_commonDivisor rfl 45 rfl (fun hc => ?_) (fun hc => ?_)
      · replace h := of_pos hc h
        refine Z_blk k_X10_commonDivisor 1 (pc' := 47) (lo' := [none, none, none, none, some (vL a4), none, some (vL a6), none, some (vI a8), none, none]) (st' := [vL a4]) (M1 := M) rfl ?_
        cases h
        exact Z_ret ⟨rfl, _, rfl⟩ rfl
      · replace h := of_neg hc h
        refine Z_blk k_X10_commonDivisor 2 (pc' := 28) (lo' := [none, none, none, none, some (vL a4), none, some (vL a6), none, some (vI a8), none, none]) (st' := [vL a6, vL a4]) (M1 := M) rfl ?_
        obtain ⟨hc1, h⟩ := of_grd h
        refine Z_one k_X10_commonDivisor rfl (pc' := 29) (lo' := [none, none, none, none, some (vL a4), none, some (vL a6), none, some (vI a8), none, none]) (st' := [vL (l_rem a4 a6)]) (M1 := M) (if_pos hc1) ?_
        refine Z_blk k_X10_commonDivisor 7 (pc' := 9) (lo' := [none, none, none, none, some (vL a6), none, some (vL (l_rem a4 a6)), none, some (vI (o_add a8 1)), some (vL (l_rem a4 a6)), none]) (st' := []) (M1 := M) rfl ?_
        refine Z_mask [false, false, false, false, true, false, true, false, true, false, false] (lo0 := [none, none, none, none, some (vL a6), none, some (vL (l_rem a4 a6)), none, some (vI (o_add a8 1)), none, none]) rfl ?_
        exact ih a6 (l_rem a4 a6) (o_add a8 1) M _ _ h
def f_X10_commonDivisor (a0 : Int) (a2 : Int) (M : AM) : Option (Int × AM) := f_X10_commonDivisor_9 zB a0 a2 0 M
theorem e_X10_commonDivisor {Y : List (Nat × Nat)} (d : Nat) (a0 : Int) (a2 : Int) (M : AM) (x : Int) (N : AM) (h : f_X10_commonDivisor a0 a2 M = some (x, N)) : Ev Y (d + 0) m_X10_commonDivisor 0 [some (vL a0), none, some (vL a2), none, none, none, none, none, none, none, none] [] M (some (vL x)) N := by
  unfold f_X10_commonDivisor at h
  refine Z_blk k_X10_commonDivisor 6 (pc' := 9) (lo' := [some (vL a0), none, some (vL a2), none, some (vL a0), none, some (vL a2), none, some (vI 0), none, none]) (st' := []) (M1 := M) rfl ?_
  refine Z_mask [false, false, false, false, true, false, true, false, true, false, false] (lo0 := [none, none, none, none, some (vL a0), none, some (vL a2), none, some (vI 0), none, none]) rfl ?_
  exact e_X10_commonDivisor_9 d zB a0 a2 0 M _ _ h
theorem l_10_387 : zhas 5163 (Jvm.Cond.methodLink "BellPullHouse" 387 yX10_commonDivisor) = true := by decide +kernel
def f_X10_tell (a1 : Int) (a3 : Int) (M : AM) : Option (AM) := (f_X10_commonDivisor a1 a3 M).bind fun x1 => if l_cmp x1.1 0 ≤ 0 then some x1.2 else (if x1.1 ≠ 0 then (zlet (am_upd x1.2 15 1 (l_div a1 x1.1)) fun M3 => zlet (am_upd M3 15 2 (l_div a3 x1.1)) fun M4 => some M4) else none)
theorem e_X10_tell {Y : List (Nat × Nat)} (d : Nat) (a1 : Int) (a3 : Int) (M : AM) (N : AM) (h : f_X10_tell a1 a3 M = some N) : Ev Y (d + 1) m_X10_tell 0 [some (vR 15 20 0), some (vL a1), none, some (vL a3), none, none, none] [] M none N := by
  unfold f_X10_tell at h
  refine Z_blk k_X10_tell 2 (pc' := 2) (lo' := [some (vR 15 20 0), some (vL a1), none, some (vL a3), none, none, none]) (st' := [vL a3, vL a1]) (M1 := M) rfl ?_
  obtain ⟨x1, hx1, h⟩ := Option.bind_eq_some_iff.mp h
  refine Z_callS8 k_X10_tell k_X10_commonDivisor rfl rfl (l_10_387) [vL a1, vL a3] [] rfl rfl (Nat.le_of_ble_eq_true rfl) (Nat.le_of_ble_eq_true rfl) (e_X10_commonDivisor (d + 0) a1 a3 M _ _ hx1) ?_
  refine Z_blk k_X10_tell 4 (pc' := 11) (lo' := [some (vR 15 20 0), some (vL a1), none, some (vL a3), none, some (vL x1.1), none]) (st' := [vI (l_cmp x1.1 0)]) (M1 := x1.2) rfl ?_
  refine Z_if k_X10_tell rfl 30 rfl (fun hc => ?_) (fun hc => ?_)
  · replace h := of_pos hc h
    cases h
    exact Z_ret ⟨rfl, _, rfl⟩ rfl
  · replace h := of_neg hc h
    refine Z_blk k_X10_tell 3 (pc' := 18) (lo' := [some (vR 15 20 0), some (vL a1), none, some (vL a3), none, some (vL x1.1), none]) (st' := [vL x1.1, vL a1, vR 15 20 0]) (M1 := x1.2) rfl ?_
    obtain ⟨hc2, h⟩ := of_grd h
    refine Z_one k_X10_tell rfl (pc' := 19) (lo' := [some (vR 15 20 0), some (vL a1), none, some (vL a3), none, some (vL x1.1), none]) (st' := [vL (l_div a1 x1.1), vR 15 20 0]) (M1 := x1.2) (if_pos hc2) ?_
    obtain ⟨M3, eM3, h⟩ := of_zlet h
    refine Z_blk k_X10_tell 1 (pc' := 22) (lo' := [some (vR 15 20 0), some (vL a1), none, some (vL a3), none, some (vL x1.1), none]) (st' := []) (M1 := M3) (by rw [eM3]; rfl) ?_
    refine Z_blk k_X10_tell 3 (pc' := 26) (lo' := [some (vR 15 20 0), some (vL a1), none, some (vL a3), none, some (vL x1.1), none]) (st' := [vL x1.1, vL a3, vR 15 20 0]) (M1 := M3) rfl ?_
    refine Z_one k_X10_tell rfl (pc' := 27) (lo' := [some (vR 15 20 0), some (vL a1), none, some (vL a3), none, some (vL x1.1), none]) (st' := [vL (l_div a3 x1.1), vR 15 20 0]) (M1 := M3) (if_pos hc2) ?_
    obtain ⟨M4, eM4, h⟩ := of_zlet h
    refine Z_blk k_X10_tell 1 (pc' := 30) (lo' := [some (vR 15 20 0), some (vL a1), none, some (vL a3), none, some (vL x1.1), none]) (st' := []) (M1 := M4) (by rw [eM4]; rfl) ?_
    cases h
    exact Z_ret ⟨rfl, _, rfl⟩ rfl
theorem l_10_365 : zhas 5151 (Jvm.Cond.methodLink "BellPullHouse" 365 yX7_lastingSixteenths) = true := by decide +kernel
theorem l_10_369 : zhas 5158 (Jvm.Cond.methodLink "BellPullHouse" 369 yX7_toThePower) = true := by decide +kernel
theorem l_10_373 : zhas 5159 (Jvm.Cond.methodLink "BellPullHouse" 373 yX10_tell) = true := by decide +kernel
def f_X10_lasts (a1 : Int) (M : AM) : Option (Int × AM) := (f_X1_isCouple 23 a1 M).bind fun x1 => if ¬ x1.1 = 0 then ((f_X7_lastingSixteenths a1 x1.2).bind fun x2 => (f_J6_bitCount_0f7a4 (x2.2 23 7) x2.2).bind fun x3 => (f_X7_toThePower 16 x3.1 x3.2).bind fun x4 => (f_X10_tell x2.1 x4.1 x4.2).bind fun x5 => (f_X10_agree x5).bind fun x6 => if x6.1 = 0 ∨ x6.1 = 1 then some (x6.1, x6.2) else none) else ((f_X10_refuse 2 x1.2).bind fun x8 => if x8.1 = 0 ∨ x8.1 = 1 then some (x8.1, x8.2) else none)
theorem e_X10_lasts {Y : List (Nat × Nat)} (d : Nat) (a1 : Int) (M : AM) (x : Int) (N : AM) (h : f_X10_lasts a1 M = some (x, N)) : Ev Y (d + 3) m_X10_lasts 0 [some (vR 15 20 0), some (vI a1)] [] M (some (vI x)) N := by
  unfold f_X10_lasts at h
  refine Z_blk k_X10_lasts 3 (pc' := 5) (lo' := [some (vR 15 20 0), some (vI a1)]) (st' := [vI a1, vR 23 11 0]) (M1 := M) rfl ?_
  obtain ⟨x1, hx1, h⟩ := Option.bind_eq_some_iff.mp h
  refine Z_callV8 k_X10_lasts k_X1_isCouple rfl rfl (l_10_247) (ci := 1) rfl [vI a1] [] rfl rfl (Nat.le_of_ble_eq_true rfl) (Nat.le_of_ble_eq_true rfl) (e_X1_isCouple (d + 2) 23 a1 M _ _ hx1) ?_
  refine Z_if k_X10_lasts rfl 17 rfl (fun hc => ?_) (fun hc => ?_)
  · replace h := of_pos hc h
    refine Z_blk k_X10_lasts 6 (pc' := 27) (lo' := [some (vR 15 20 0), some (vI a1)]) (st' := [vI a1, vR 23 11 0, vR 63 17 0, vR 15 20 0]) (M1 := x1.2) rfl ?_
    obtain ⟨x2, hx2, h⟩ := Option.bind_eq_some_iff.mp h
    refine Z_callV8 k_X10_lasts k_X7_lastingSixteenths rfl rfl (l_10_365) (ci := 7) rfl [vR 23 11 0, vI a1] [vR 15 20 0] rfl rfl (Nat.le_of_ble_eq_true rfl) (Nat.le_of_ble_eq_true rfl) (e_X7_lastingSixteenths (d + 0) a1 x1.2 _ _ hx2) ?_
    refine Z_blk k_X10_lasts 4 (pc' := 39) (lo' := [some (vR 15 20 0), some (vI a1)]) (st' := [vI (x2.2 23 7), vI 16, vL x2.1, vR 15 20 0]) (M1 := x2.2) rfl ?_
    obtain ⟨x3, hx3, h⟩ := Option.bind_eq_some_iff.mp h
    refine Z_callS8 k_X10_lasts k_J6_bitCount_0f7a4 rfl rfl (l_10_324) [vI (x2.2 23 7)] [vI 16, vL x2.1, vR 15 20 0] rfl rfl (Nat.le_of_ble_eq_true rfl) (Nat.le_of_ble_eq_true rfl) (e_J6_bitCount_0f7a4 (d + 2) (x2.2 23 7) x2.2 _ _ hx3) ?_
    obtain ⟨x4, hx4, h⟩ := Option.bind_eq_some_iff.mp h
    refine Z_callS8 k_X10_lasts k_X7_toThePower rfl rfl (l_10_369) [vI 16, vI x3.1] [vL x2.1, vR 15 20 0] rfl rfl (Nat.le_of_ble_eq_true rfl) (Nat.le_of_ble_eq_true rfl) (e_X7_toThePower (d + 2) 16 x3.1 x3.2 _ _ hx4) ?_
    obtain ⟨x5, hx5, h⟩ := Option.bind_eq_some_iff.mp h
    refine Z_callV8 k_X10_lasts k_X10_tell rfl rfl (l_10_373) (ci := 10) rfl [vL x2.1, vL x4.1] [] rfl rfl (Nat.le_of_ble_eq_true rfl) (Nat.le_of_ble_eq_true rfl) (e_X10_tell (d + 1) x2.1 x4.1 x4.2 _ hx5) ?_
    refine Z_blk k_X10_lasts 1 (pc' := 49) (lo' := [some (vR 15 20 0), some (vI a1)]) (st' := [vR 15 20 0]) (M1 := x5) rfl ?_
    obtain ⟨x6, hx6, h⟩ := Option.bind_eq_some_iff.mp h
    refine Z_callV8 k_X10_lasts k_X10_agree rfl rfl (l_10_118) (ci := 10) rfl [] [] rfl rfl (Nat.le_of_ble_eq_true rfl) (Nat.le_of_ble_eq_true rfl) (e_X10_agree (d + 2) x5 _ _ hx6) ?_
    obtain ⟨hc7, h⟩ := of_grd h
    cases h
    exact Z_ret ⟨Or.inr ⟨rfl, hc7⟩, _, rfl⟩ rfl
  · replace h := of_neg hc h
    refine Z_blk k_X10_lasts 2 (pc' := 13) (lo' := [some (vR 15 20 0), some (vI a1)]) (st' := [vI 2, vR 15 20 0]) (M1 := x1.2) rfl ?_
    obtain ⟨x8, hx8, h⟩ := Option.bind_eq_some_iff.mp h
    refine Z_callV8 k_X10_lasts k_X10_refuse rfl rfl (l_10_111) (ci := 10) rfl [vI 2] [] rfl rfl (Nat.le_of_ble_eq_true rfl) (Nat.le_of_ble_eq_true rfl) (e_X10_refuse (d + 2) 2 x1.2 _ _ hx8) ?_
    obtain ⟨hc9, h⟩ := of_grd h
    cases h
    exact Z_ret ⟨Or.inr ⟨rfl, hc9⟩, _, rfl⟩ rfl
def f_X10_faith (a1 : Int) (M : AM) : Option (Int × AM) := (f_X1_isCouple 23 a1 M).bind fun x1 => if ¬ x1.1 = 0 then (if ¬ x1.2 23 5 = 0 then (if 0 ≤ a1 ∧ a1 < 6 then ((f_X10_tell (x1.2 30 (Int.toNat a1)) (x1.2 23 5) x1.2).bind fun x3 => (f_X10_agree x3).bind fun x4 => if x4.1 = 0 ∨ x4.1 = 1 then some (x4.1, x4.2) else none) else none) else ((f_X10_refuse 8 x1.2).bind fun x6 => if x6.1 = 0 ∨ x6.1 = 1 then some (x6.1, x6.2) else none)) else ((f_X10_refuse 2 x1.2).bind fun x8 => if x8.1 = 0 ∨ x8.1 = 1 then some (x8.1, x8.2) else none)
theorem e_X10_faith {Y : List (Nat × Nat)} (d : Nat) (a1 : Int) (M : AM) (x : Int) (N : AM) (h : f_X10_faith a1 M = some (x, N)) : Ev Y (d + 2) m_X10_faith 0 [some (vR 15 20 0), some (vI a1)] [] M (some (vI x)) N := by
  unfold f_X10_faith at h
  refine Z_blk k_X10_faith 3 (pc' := 5) (lo' := [some (vR 15 20 0), some (vI a1)]) (st' := [vI a1, vR 23 11 0]) (M1 := M) rfl ?_
  obtain ⟨x1, hx1, h⟩ := Option.bind_eq_some_iff.mp h
  refine Z_callV8 k_X10_faith k_X1_isCouple rfl rfl (l_10_247) (ci := 1) rfl [vI a1] [] rfl rfl (Nat.le_of_ble_eq_true rfl) (Nat.le_of_ble_eq_true rfl) (e_X1_isCouple (d + 1) 23 a1 M _ _ hx1) ?_
  refine Z_if k_X10_faith rfl 17 rfl (fun hc => ?_) (fun hc => ?_)
  · replace h := of_pos hc h
    refine Z_blk k_X10_faith 3 (pc' := 24) (lo' := [some (vR 15 20 0), some (vI a1)]) (st' := [vI (x1.2 23 5)]) (M1 := x1.2) rfl ?_
    refine Z_if k_X10_faith rfl 34 rfl (fun hc => ?_) (fun hc => ?_)
    · replace h := of_pos hc h
      refine Z_blk k_X10_faith 5 (pc' := 43) (lo' := [some (vR 15 20 0), some (vI a1)]) (st' := [vI a1, vR 30 0 6, vR 15 20 0]) (M1 := x1.2) rfl ?_
      obtain ⟨hc2, h⟩ := of_grd h
      refine Z_one k_X10_faith rfl (pc' := 44) (lo' := [some (vR 15 20 0), some (vI a1)]) (st' := [vI (x1.2 30 (Int.toNat a1)), vR 15 20 0]) (M1 := x1.2) (if_pos hc2) ?_
      refine Z_blk k_X10_faith 5 (pc' := 53) (lo' := [some (vR 15 20 0), some (vI a1)]) (st' := [vL (x1.2 23 5), vL (x1.2 30 (Int.toNat a1)), vR 15 20 0]) (M1 := x1.2) rfl ?_
      obtain ⟨x3, hx3, h⟩ := Option.bind_eq_some_iff.mp h
      refine Z_callV8 k_X10_faith k_X10_tell rfl rfl (l_10_373) (ci := 10) rfl [vL (x1.2 30 (Int.toNat a1)), vL (x1.2 23 5)] [] rfl rfl (Nat.le_of_ble_eq_true rfl) (Nat.le_of_ble_eq_true rfl) (e_X10_tell (d + 0) (x1.2 30 (Int.toNat a1)) (x1.2 23 5) x1.2 _ hx3) ?_
      refine Z_blk k_X10_faith 1 (pc' := 57) (lo' := [some (vR 15 20 0), some (vI a1)]) (st' := [vR 15 20 0]) (M1 := x3) rfl ?_
      obtain ⟨x4, hx4, h⟩ := Option.bind_eq_some_iff.mp h
      refine Z_callV8 k_X10_faith k_X10_agree rfl rfl (l_10_118) (ci := 10) rfl [] [] rfl rfl (Nat.le_of_ble_eq_true rfl) (Nat.le_of_ble_eq_true rfl) (e_X10_agree (d + 1) x3 _ _ hx4) ?_
      obtain ⟨hc5, h⟩ := of_grd h
      cases h
      exact Z_ret ⟨Or.inr ⟨rfl, hc5⟩, _, rfl⟩ rfl
    · replace h := of_neg hc h
      refine Z_blk k_X10_faith 2 (pc' := 30) (lo' := [some (vR 15 20 0), some (vI a1)]) (st' := [vI 8, vR 15 20 0]) (M1 := x1.2) rfl ?_
      obtain ⟨x6, hx6, h⟩ := Option.bind_eq_some_iff.mp h
      refine Z_callV8 k_X10_faith k_X10_refuse rfl rfl (l_10_111) (ci := 10) rfl [vI 8] [] rfl rfl (Nat.le_of_ble_eq_true rfl) (Nat.le_of_ble_eq_true rfl) (e_X10_refuse (d + 1) 8 x1.2 _ _ hx6) ?_
      obtain ⟨hc7, h⟩ := of_grd h
      cases h
      exact Z_ret ⟨Or.inr ⟨rfl, hc7⟩, _, rfl⟩ rfl
  · replace h := of_neg hc h
    refine Z_blk k_X10_faith 2 (pc' := 13) (lo' := [some (vR 15 20 0), some (vI a1)]) (st' := [vI 2, vR 15 20 0]) (M1 := x1.2) rfl ?_
    obtain ⟨x8, hx8, h⟩ := Option.bind_eq_some_iff.mp h
    refine Z_callV8 k_X10_faith k_X10_refuse rfl rfl (l_10_111) (ci := 10) rfl [vI 2] [] rfl rfl (Nat.le_of_ble_eq_true rfl) (Nat.le_of_ble_eq_true rfl) (e_X10_refuse (d + 1) 2 x1.2 _ _ hx8) ?_
    obtain ⟨hc9, h⟩ := of_grd h
    cases h
    exact Z_ret ⟨Or.inr ⟨rfl, hc9⟩, _, rfl⟩ rfl
theorem l_10_380 : zhas 5174 (Jvm.Cond.methodLink "BellPullHouse" 380 yX3_lead) = true := by decide +kernel
def f_X10_live_11 (M : AM) : Option (Int × AM) := (f_X10_fail 5 M).bind fun x1 => some (x1.1, x1.2)
theorem e_X10_live_11 {Y : List (Nat × Nat)} (d : Nat) (M : AM) (x : Int) (N : AM) (h : f_X10_live_11 M = some (x, N)) : Ev Y (d + 7) m_X10_live 11 [some (vR 15 20 0), none, none] [] M (some (vI x)) N := by
  unfold f_X10_live_11 at h
  refine Z_blk k_X10_live 2 (pc' := 13) (lo' := [some (vR 15 20 0), none, none]) (st' := [vI 5, vR 15 20 0]) (M1 := M) rfl ?_
  obtain ⟨x1, hx1, h⟩ := Option.bind_eq_some_iff.mp h
  refine Z_callV8 k_X10_live k_X10_fail rfl rfl (l_10_130) (ci := 10) rfl [vI 5] [] rfl rfl (Nat.le_of_ble_eq_true rfl) (Nat.le_of_ble_eq_true rfl) (e_X10_fail (d + 6) 5 M _ _ hx1) ?_
  cases h
  exact Z_ret ⟨Or.inl rfl, _, rfl⟩ rfl
def f_X10_live_52 : Nat → Int → AM → Option (Int × AM)
  | 0, _, _ => none
  | n + 1, a2, M => if 5 ≤ a2 then (zlet (am_upd M 15 19 1) fun M1 => (f_X10_answer (M1 69 0) M1).bind fun x2 => some (x2.1, x2.2)) else (if 0 ≤ a2 ∧ a2 < 5 then (zlet (am_upd M 19 (Int.toNat a2) (M 70 (Int.toNat a2))) fun M4 => f_X10_live_52 n (o_add a2 1) M4) else none)
theorem e_X10_live_52 {Y : List (Nat × Nat)} (d : Nat) : ∀ (n : Nat) (a2 : Int) (M : AM) (x : Int) (N : AM), f_X10_live_52 n a2 M = some (x, N) → Ev Y (d + 7) m_X10_live 52 [some (vR 15 20 0), none, some (vI a2)] [] M (some (vI x)) N := by
  intro n
  induction n with
  | zero => intro a2 M x N h; cases h
  | succ n ih =>
    intro a2 M x N h
    simp only [f_X10_live_52] at h
    refine Z_blk k_X10_live 2 (pc' := 54) (lo' := [some (vR 15 20 0), none, some (vI a2)]) (st' := [vI 5, vI a2]) (M1 := M) rfl ?_
    refine Z_icmp k_X10_live rfl 78 rfl (fun hc => ?_) (fun hc => ?_)
    · replace h := of_pos hc h
      obtain ⟨M1, eM1, h⟩ := of_zlet h
      refine Z_blk k_X10_live 3 (pc' := 83) (lo' := [some (vR 15 20 0), none, some (vI a2)]) (st' := []) (M1 := M1) (by rw [eM1]; rfl) ?_
      refine Z_blk k_X10_live 4 (pc' := 91) (lo' := [some (vR 15 20 0), none, some (vI a2)]) (st' := [vI (M1 69 0), vR 15 20 0]) (M1 := M1) rfl ?_
      obtain ⟨x2, hx2, h⟩ := Option.bind_eq_some_iff.mp h
      refine Z_callV8 k_X10_live k_X10_answer rfl rfl (l_10_184) (ci := 10) rfl [vI (M1 69 0)] [] rfl rfl (Nat.le_of_ble_eq_true rfl) (Nat.le_of_ble_eq_true rfl) (e_X10_answer (d + 6) (M1 69 0) M1 _ _ hx2) ?_
      cases h
      exact Z_ret ⟨Or.inl rfl, _, rfl⟩ rfl
    · replace h := of_neg hc h
      refine Z_blk k_X10_live 7 (pc' := 70) (lo' := [some (vR 15 20 0), none, some (vI a2)]) (st' := [vI a2, vR 70 0 5, vI a2, vR 19 0 5]) (M1 := M) rfl ?_
      obtain ⟨hc3, h⟩ := of_grd h
      refine Z_one k_X10_live rfl (pc' := 71) (lo' := [some (vR 15 20 0), none, some (vI a2)]) (st' := [vI (M 70 (Int.toNat a2)), vI a2, vR 19 0 5]) (M1 := M) (if_pos hc3) ?_
      obtain ⟨M4, eM4, h⟩ := of_zlet h
      refine Z_one k_X10_live rfl (pc' := 72) (lo' := [some (vR 15 20 0), none, some (vI a2)]) (st' := []) (M1 := M4) (by rw [eM4]; exact if_pos hc3) ?_
      refine Z_blk k_X10_live 2 (pc' := 52) (lo' := [some (vR 15 20 0), none, some (vI (o_add a2 1))]) (st' := []) (M1 := M4) rfl ?_
      refine Z_mask [true, false, true] (lo0 := [some (vR 15 20 0), none, some (vI (o_add a2 1))]) rfl ?_
      exact ih (o_add a2 1) M4 _ _ h
def f_X10_live (a1 : Int) (M : AM) : Option (Int × AM) := if a1 < 0 then f_X10_live_11 M else (if a1 ≤ 9999 then (if ¬ M 45 0 = 0 then ((f_X3_lead 23 a1 M).bind fun x1 => f_X10_live_52 zB 0 x1) else ((f_X10_fail 8 M).bind fun x2 => some (x2.1, x2.2))) else f_X10_live_11 M)
theorem e_X10_live {Y : List (Nat × Nat)} (d : Nat) (a1 : Int) (M : AM) (x : Int) (N : AM) (h : f_X10_live a1 M = some (x, N)) : Ev Y (d + 7) m_X10_live 0 [some (vR 15 20 0), some (vI a1), none] [] M (some (vI x)) N := by
  unfold f_X10_live at h
  refine Z_blk k_X10_live 1 (pc' := 1) (lo' := [some (vR 15 20 0), some (vI a1), none]) (st' := [vI a1]) (M1 := M) rfl ?_
  refine Z_if k_X10_live rfl 11 rfl (fun hc => ?_) (fun hc => ?_)
  · replace h := of_pos hc h
    refine Z_mask [true, false, false] (lo0 := [some (vR 15 20 0), none, none]) rfl ?_
    exact e_X10_live_11 d M _ _ h
  · replace h := of_neg hc h
    refine Z_blk k_X10_live 2 (pc' := 8) (lo' := [some (vR 15 20 0), some (vI a1), none]) (st' := [vI 9999, vI a1]) (M1 := M) rfl ?_
    refine Z_icmp k_X10_live rfl 17 rfl (fun hc => ?_) (fun hc => ?_)
    · replace h := of_pos hc h
      refine Z_blk k_X10_live 3 (pc' := 24) (lo' := [some (vR 15 20 0), some (vI a1), none]) (st' := [vI (M 45 0)]) (M1 := M) rfl ?_
      refine Z_if k_X10_live rfl 34 rfl (fun hc => ?_) (fun hc => ?_)
      · replace h := of_pos hc h
        refine Z_blk k_X10_live 7 (pc' := 47) (lo' := [some (vR 15 20 0), some (vI a1), none]) (st' := [vI a1, vR 45 18 0, vR 23 11 0, vR 69 13 0]) (M1 := M) rfl ?_
        obtain ⟨x1, hx1, h⟩ := Option.bind_eq_some_iff.mp h
        refine Z_callV8 k_X10_live k_X3_lead rfl rfl (l_10_380) (ci := 3) rfl [vR 23 11 0, vR 45 18 0, vI a1] [] rfl rfl (Nat.le_of_ble_eq_true rfl) (Nat.le_of_ble_eq_true rfl) (e_X3_lead (d + 0) 23 a1 M _ hx1) ?_
        refine Z_blk k_X10_live 2 (pc' := 52) (lo' := [some (vR 15 20 0), some (vI a1), some (vI 0)]) (st' := []) (M1 := x1) rfl ?_
        refine Z_mask [true, false, true] (lo0 := [some (vR 15 20 0), none, some (vI 0)]) rfl ?_
        exact e_X10_live_52 d zB 0 x1 _ _ h
      · replace h := of_neg hc h
        refine Z_blk k_X10_live 2 (pc' := 30) (lo' := [some (vR 15 20 0), some (vI a1), none]) (st' := [vI 8, vR 15 20 0]) (M1 := M) rfl ?_
        obtain ⟨x2, hx2, h⟩ := Option.bind_eq_some_iff.mp h
        refine Z_callV8 k_X10_live k_X10_fail rfl rfl (l_10_130) (ci := 10) rfl [vI 8] [] rfl rfl (Nat.le_of_ble_eq_true rfl) (Nat.le_of_ble_eq_true rfl) (e_X10_fail (d + 6) 8 M _ _ hx2) ?_
        cases h
        exact Z_ret ⟨Or.inl rfl, _, rfl⟩ rfl
    · replace h := of_neg hc h
      refine Z_mask [true, false, false] (lo0 := [some (vR 15 20 0), none, none]) rfl ?_
      exact e_X10_live_11 d M _ _ h
def f_X10_lived_9 (M : AM) : Option (Int × AM) := (f_X10_fail 5 M).bind fun x1 => some (x1.1, x1.2)
theorem e_X10_lived_9 {Y : List (Nat × Nat)} (d : Nat) (M : AM) (x : Int) (N : AM) (h : f_X10_lived_9 M = some (x, N)) : Ev Y (d + 1) m_X10_lived 9 [some (vR 15 20 0), none] [] M (some (vI x)) N := by
  unfold f_X10_lived_9 at h
  refine Z_blk k_X10_lived 2 (pc' := 11) (lo' := [some (vR 15 20 0), none]) (st' := [vI 5, vR 15 20 0]) (M1 := M) rfl ?_
  obtain ⟨x1, hx1, h⟩ := Option.bind_eq_some_iff.mp h
  refine Z_callV8 k_X10_lived k_X10_fail rfl rfl (l_10_130) (ci := 10) rfl [vI 5] [] rfl rfl (Nat.le_of_ble_eq_true rfl) (Nat.le_of_ble_eq_true rfl) (e_X10_fail (d + 0) 5 M _ _ hx1) ?_
  cases h
  exact Z_ret ⟨Or.inl rfl, _, rfl⟩ rfl
def f_X10_lived (a1 : Int) (M : AM) : Option (Int × AM) := if a1 < 0 then f_X10_lived_9 M else (if a1 < 5 then (if M 15 19 = 0 then ((f_X10_fail 8 M).bind fun x1 => some (x1.1, x1.2)) else (if 0 ≤ a1 ∧ a1 < 5 then ((f_X10_answer (M 19 (Int.toNat a1)) M).bind fun x3 => some (x3.1, x3.2)) else none)) else f_X10_lived_9 M)
theorem e_X10_lived {Y : List (Nat × Nat)} (d : Nat) (a1 : Int) (M : AM) (x : Int) (N : AM) (h : f_X10_lived a1 M = some (x, N)) : Ev Y (d + 1) m_X10_lived 0 [some (vR 15 20 0), some (vI a1)] [] M (some (vI x)) N := by
  unfold f_X10_lived at h
  refine Z_blk k_X10_lived 1 (pc' := 1) (lo' := [some (vR 15 20 0), some (vI a1)]) (st' := [vI a1]) (M1 := M) rfl ?_
  refine Z_if k_X10_lived rfl 9 rfl (fun hc => ?_) (fun hc => ?_)
  · replace h := of_pos hc h
    refine Z_mask [true, false] (lo0 := [some (vR 15 20 0), none]) rfl ?_
    exact e_X10_lived_9 d M _ _ h
  · replace h := of_neg hc h
    refine Z_blk k_X10_lived 2 (pc' := 6) (lo' := [some (vR 15 20 0), some (vI a1)]) (st' := [vI 5, vI a1]) (M1 := M) rfl ?_
    refine Z_icmp k_X10_lived rfl 15 rfl (fun hc => ?_) (fun hc => ?_)
    · replace h := of_pos hc h
      refine Z_blk k_X10_lived 2 (pc' := 19) (lo' := [some (vR 15 20 0), some (vI a1)]) (st' := [vI (M 15 19)]) (M1 := M) rfl ?_
      refine Z_if k_X10_lived rfl 35 rfl (fun hc => ?_) (fun hc => ?_)
      · replace h := of_pos hc h
        refine Z_blk k_X10_lived 2 (pc' := 38) (lo' := [some (vR 15 20 0), some (vI a1)]) (st' := [vI 8, vR 15 20 0]) (M1 := M) rfl ?_
        obtain ⟨x1, hx1, h⟩ := Option.bind_eq_some_iff.mp h
        refine Z_callV8 k_X10_lived k_X10_fail rfl rfl (l_10_130) (ci := 10) rfl [vI 8] [] rfl rfl (Nat.le_of_ble_eq_true rfl) (Nat.le_of_ble_eq_true rfl) (e_X10_fail (d + 0) 8 M _ _ hx1) ?_
        cases h
        exact Z_ret ⟨Or.inl rfl, _, rfl⟩ rfl
      · replace h := of_neg hc h
        refine Z_blk k_X10_lived 4 (pc' := 28) (lo' := [some (vR 15 20 0), some (vI a1)]) (st' := [vI a1, vR 19 0 5, vR 15 20 0]) (M1 := M) rfl ?_
        obtain ⟨hc2, h⟩ := of_grd h
        refine Z_one k_X10_lived rfl (pc' := 29) (lo' := [some (vR 15 20 0), some (vI a1)]) (st' := [vI (M 19 (Int.toNat a1)), vR 15 20 0]) (M1 := M) (if_pos hc2) ?_
        obtain ⟨x3, hx3, h⟩ := Option.bind_eq_some_iff.mp h
        refine Z_callV8 k_X10_lived k_X10_answer rfl rfl (l_10_184) (ci := 10) rfl [vI (M 19 (Int.toNat a1))] [] rfl rfl (Nat.le_of_ble_eq_true rfl) (Nat.le_of_ble_eq_true rfl) (e_X10_answer (d + 0) (M 19 (Int.toNat a1)) M _ _ hx3) ?_
        refine Z_blk k_X10_lived 1 (pc' := 41) (lo' := [some (vR 15 20 0), some (vI a1)]) (st' := [vI x3.1]) (M1 := x3.2) rfl ?_
        cases h
        exact Z_ret ⟨Or.inl rfl, _, rfl⟩ rfl
    · replace h := of_neg hc h
      refine Z_mask [true, false] (lo0 := [some (vR 15 20 0), none]) rfl ?_
      exact e_X10_lived_9 d M _ _ h
def f_X10_mean_24 (M : AM) : Option (Int × AM) := (f_X10_refuse 5 M).bind fun x1 => if x1.1 = 0 ∨ x1.1 = 1 then some (x1.1, x1.2) else none
theorem e_X10_mean_24 {Y : List (Nat × Nat)} (d : Nat) (M : AM) (x : Int) (N : AM) (h : f_X10_mean_24 M = some (x, N)) : Ev Y (d + 7) m_X10_mean 24 [some (vR 15 20 0), none, none, none, none] [] M (some (vI x)) N := by
  unfold f_X10_mean_24 at h
  refine Z_blk k_X10_mean 2 (pc' := 26) (lo' := [some (vR 15 20 0), none, none, none, none]) (st' := [vI 5, vR 15 20 0]) (M1 := M) rfl ?_
  obtain ⟨x1, hx1, h⟩ := Option.bind_eq_some_iff.mp h
  refine Z_callV8 k_X10_mean k_X10_refuse rfl rfl (l_10_111) (ci := 10) rfl [vI 5] [] rfl rfl (Nat.le_of_ble_eq_true rfl) (Nat.le_of_ble_eq_true rfl) (e_X10_refuse (d + 6) 5 M _ _ hx1) ?_
  obtain ⟨hc2, h⟩ := of_grd h
  cases h
  exact Z_ret ⟨Or.inr ⟨rfl, hc2⟩, _, rfl⟩ rfl
def f_X10_mean_52 : Nat → Int → Int → Int → Int → AM → Option (Int × AM)
  | 0, _, _, _, _, _ => none
  | n + 1, a1, a2, a3, a4, M => if a2 ≤ a4 then ((f_X10_tell a3 a2 M).bind fun x1 => (f_X10_agree x1).bind fun x2 => if x2.1 = 0 ∨ x2.1 = 1 then some (x2.1, x2.2) else none) else ((f_X1_copyFrom 34 23 M).bind fun x4 => (f_X3_lead 34 (o_add a1 a4) x4).bind fun x5 => (f_X1_loveTogether 34 x5).bind fun x6 => f_X10_mean_52 n a1 a2 (o_add a3 x6.1) (o_add a4 1) x6.2)
theorem e_X10_mean_52 {Y : List (Nat × Nat)} (d : Nat) : ∀ (n : Nat) (a1 : Int) (a2 : Int) (a3 : Int) (a4 : Int) (M : AM) (x : Int) (N : AM), f_X10_mean_52 n a1 a2 a3 a4 M = some (x, N) → Ev Y (d + 7) m_X10_mean 52 [some (vR 15 20 0), some (vI a1), some (vI a2), some (vI a3), some (vI a4)] [] M (some (vI x)) N := by
  intro n
  induction n with
  | zero => intro a1 a2 a3 a4 M x N h; cases h
  | succ n ih =>
    intro a1 a2 a3 a4 M x N h
    simp only [f_X10_mean_52] at h
    refine Z_blk k_X10_mean 2 (pc' := 55) (lo' := [some (vR 15 20 0), some (vI a1), some (vI a2), some (vI a3), some (vI a4)]) (st' := [vI a2, vI a4]) (M1 := M) rfl ?_
    refine Z_icmp k_X10_mean rfl 104 rfl (fun hc => ?_) (fun hc => ?_)
    · replace h := of_pos hc h
      refine Z_blk k_X10_mean 5 (pc' := 109) (lo' := [some (vR 15 20 0), some (vI a1), some (vI a2), some (vI a3), some (vI a4)]) (st' := [vL a2, vL a3, vR 15 20 0]) (M1 := M) rfl ?_
      obtain ⟨x1, hx1, h⟩ := Option.bind_eq_some_iff.mp h
      refine Z_callV8 k_X10_mean k_X10_tell rfl rfl (l_10_373) (ci := 10) rfl [vL a3, vL a2] [] rfl rfl (Nat.le_of_ble_eq_true rfl) (Nat.le_of_ble_eq_true rfl) (e_X10_tell (d + 5) a3 a2 M _ hx1) ?_
      refine Z_blk k_X10_mean 1 (pc' := 113) (lo' := [some (vR 15 20 0), some (vI a1), some (vI a2), some (vI a3), some (vI a4)]) (st' := [vR 15 20 0]) (M1 := x1) rfl ?_
      obtain ⟨x2, hx2, h⟩ := Option.bind_eq_some_iff.mp h
      refine Z_callV8 k_X10_mean k_X10_agree rfl rfl (l_10_118) (ci := 10) rfl [] [] rfl rfl (Nat.le_of_ble_eq_true rfl) (Nat.le_of_ble_eq_true rfl) (e_X10_agree (d + 6) x1 _ _ hx2) ?_
      obtain ⟨hc3, h⟩ := of_grd h
      cases h
      exact Z_ret ⟨Or.inr ⟨rfl, hc3⟩, _, rfl⟩ rfl
    · replace h := of_neg hc h
      refine Z_blk k_X10_mean 4 (pc' := 66) (lo' := [some (vR 15 20 0), some (vI a1), some (vI a2), some (vI a3), some (vI a4)]) (st' := [vR 23 11 0, vR 34 11 0]) (M1 := M) rfl ?_
      obtain ⟨x4, hx4, h⟩ := Option.bind_eq_some_iff.mp h
      refine Z_callV8 k_X10_mean k_X1_copyFrom rfl rfl (l_10_174) (ci := 1) rfl [vR 23 11 0] [] rfl rfl (Nat.le_of_ble_eq_true rfl) (Nat.le_of_ble_eq_true rfl) (e_X1_copyFrom (d + 6) 34 23 M _ hx4) ?_
      refine Z_blk k_X10_mean 9 (pc' := 85) (lo' := [some (vR 15 20 0), some (vI a1), some (vI a2), some (vI a3), some (vI a4)]) (st' := [vI (o_add a1 a4), vR 45 18 0, vR 34 11 0, vR 69 13 0]) (M1 := x4) rfl ?_
      obtain ⟨x5, hx5, h⟩ := Option.bind_eq_some_iff.mp h
      refine Z_callV8 k_X10_mean k_X3_lead rfl rfl (l_10_380) (ci := 3) rfl [vR 34 11 0, vR 45 18 0, vI (o_add a1 a4)] [] rfl rfl (Nat.le_of_ble_eq_true rfl) (Nat.le_of_ble_eq_true rfl) (e_X3_lead (d + 0) 34 (o_add a1 a4) x4 _ hx5) ?_
      refine Z_blk k_X10_mean 3 (pc' := 93) (lo' := [some (vR 15 20 0), some (vI a1), some (vI a2), some (vI a3), some (vI a4)]) (st' := [vR 34 11 0, vI a3]) (M1 := x5) rfl ?_
      obtain ⟨x6, hx6, h⟩ := Option.bind_eq_some_iff.mp h
      refine Z_callV8 k_X10_mean k_X1_loveTogether rfl rfl (l_10_229) (ci := 1) rfl [] [vI a3] rfl rfl (Nat.le_of_ble_eq_true rfl) (Nat.le_of_ble_eq_true rfl) (e_X1_loveTogether (d + 6) 34 x5 _ _ hx6) ?_
      refine Z_blk k_X10_mean 4 (pc' := 52) (lo' := [some (vR 15 20 0), some (vI a1), some (vI a2), some (vI (o_add a3 x6.1)), some (vI (o_add a4 1))]) (st' := []) (M1 := x6.2) rfl ?_
      refine Z_mask [true, true, true, true, true] (lo0 := [some (vR 15 20 0), some (vI a1), some (vI a2), some (vI (o_add a3 x6.1)), some (vI (o_add a4 1))]) rfl ?_
      exact ih a1 a2 (o_add a3 x6.1) (o_add a4 1) x6.2 _ _ h
def f_X10_mean (a1 : Int) (a2 : Int) (M : AM) : Option (Int × AM) := if a1 < 0 then f_X10_mean_24 M else (if a2 < 1 then f_X10_mean_24 M else (if 20 < a2 then f_X10_mean_24 M else (if a1 ≤ o_sub 10000 a2 then (if ¬ M 45 0 = 0 then f_X10_mean_52 zB a1 a2 0 0 M else ((f_X10_refuse 8 M).bind fun x1 => if x1.1 = 0 ∨ x1.1 = 1 then some (x1.1, x1.2) else none)) else f_X10_mean_24 M)))
theorem e_X10_mean {Y : List (Nat × Nat)} (d : Nat) (a1 : Int) (a2 : Int) (M : AM) (x : Int) (N : AM) (h : f_X10_mean a1 a2 M = some (x, N)) : Ev Y (d + 7) m_X10_mean 0 [some (vR 15 20 0), some (vI a1), some (vI a2), none, none] [] M (some (vI x)) N := by
  unfold f_X10_mean at h
  refine Z_blk k_X10_mean 1 (pc' := 1) (lo' := [some (vR 15 20 0), some (vI a1), some (vI a2), none, none]) (st' := [vI a1]) (M1 := M) rfl ?_
  refine Z_if k_X10_mean rfl 24 rfl (fun hc => ?_) (fun hc => ?_)
  · replace h := of_pos hc h
    refine Z_mask [true, false, false, false, false] (lo0 := [some (vR 15 20 0), none, none, none, none]) rfl ?_
    exact e_X10_mean_24 d M _ _ h
  · replace h := of_neg hc h
    refine Z_blk k_X10_mean 2 (pc' := 6) (lo' := [some (vR 15 20 0), some (vI a1), some (vI a2), none, none]) (st' := [vI 1, vI a2]) (M1 := M) rfl ?_
    refine Z_icmp k_X10_mean rfl 24 rfl (fun hc => ?_) (fun hc => ?_)
    · replace h := of_pos hc h
      refine Z_mask [true, false, false, false, false] (lo0 := [some (vR 15 20 0), none, none, none, none]) rfl ?_
      exact e_X10_mean_24 d M _ _ h
    · replace h := of_neg hc h
      refine Z_blk k_X10_mean 2 (pc' := 12) (lo' := [some (vR 15 20 0), some (vI a1), some (vI a2), none, none]) (st' := [vI 20, vI a2]) (M1 := M) rfl ?_
      refine Z_icmp k_X10_mean rfl 24 rfl (fun hc => ?_) (fun hc => ?_)
      · replace h := of_pos hc h
        refine Z_mask [true, false, false, false, false] (lo0 := [some (vR 15 20 0), none, none, none, none]) rfl ?_
        exact e_X10_mean_24 d M _ _ h
      · replace h := of_neg hc h
        refine Z_blk k_X10_mean 4 (pc' := 21) (lo' := [some (vR 15 20 0), some (vI a1), some (vI a2), none, none]) (st' := [vI (o_sub 10000 a2), vI a1]) (M1 := M) rfl ?_
        refine Z_icmp k_X10_mean rfl 30 rfl (fun hc => ?_) (fun hc => ?_)
        · replace h := of_pos hc h
          refine Z_blk k_X10_mean 3 (pc' := 37) (lo' := [some (vR 15 20 0), some (vI a1), some (vI a2), none, none]) (st' := [vI (M 45 0)]) (M1 := M) rfl ?_
          refine Z_if k_X10_mean rfl 47 rfl (fun hc => ?_) (fun hc => ?_)
          · replace h := of_pos hc h
            refine Z_blk k_X10_mean 4 (pc' := 52) (lo' := [some (vR 15 20 0), some (vI a1), some (vI a2), some (vI 0), some (vI 0)]) (st' := []) (M1 := M) rfl ?_
            refine Z_mask [true, true, true, true, true] (lo0 := [some (vR 15 20 0), some (vI a1), some (vI a2), some (vI 0), some (vI 0)]) rfl ?_
            exact e_X10_mean_52 d zB a1 a2 0 0 M _ _ h
          · replace h := of_neg hc h
            refine Z_blk k_X10_mean 2 (pc' := 43) (lo' := [some (vR 15 20 0), some (vI a1), some (vI a2), none, none]) (st' := [vI 8, vR 15 20 0]) (M1 := M) rfl ?_
            obtain ⟨x1, hx1, h⟩ := Option.bind_eq_some_iff.mp h
            refine Z_callV8 k_X10_mean k_X10_refuse rfl rfl (l_10_111) (ci := 10) rfl [vI 8] [] rfl rfl (Nat.le_of_ble_eq_true rfl) (Nat.le_of_ble_eq_true rfl) (e_X10_refuse (d + 6) 8 M _ _ hx1) ?_
            obtain ⟨hc2, h⟩ := of_grd h
            cases h
            exact Z_ret ⟨Or.inr ⟨rfl, hc2⟩, _, rfl⟩ rfl
        · replace h := of_neg hc h
          refine Z_mask [true, false, false, false, false] (lo0 := [some (vR 15 20 0), none, none, none, none]) rfl ?_
          exact e_X10_mean_24 d M _ _ h
def f_X10_mark (M : AM) : Option (Int × AM) := if M 15 13 < 3 then (if 0 ≤ M 15 13 ∧ M 15 13 < 3 then ((f_X1_copyFrom (17 + 65 + 19 * (Int.toNat (M 15 13))) 23 M).bind fun x2 => if 0 ≤ x2 15 13 ∧ x2 15 13 < 3 then ((f_X8_copyFrom (18 + 75 + 19 * (Int.toNat (x2 15 13))) 45 x2).bind fun x4 => zlet (am_upd x4 15 13 (o_add (x4 15 13) 1)) fun M5 => (f_X10_answer (M5 15 13) M5).bind fun x6 => some (x6.1, x6.2)) else none) else none) else ((f_X10_fail 7 M).bind fun x7 => some (x7.1, x7.2))
theorem e_X10_mark {Y : List (Nat × Nat)} (d : Nat) (M : AM) (x : Int) (N : AM) (h : f_X10_mark M = some (x, N)) : Ev Y (d + 1) m_X10_mark 0 [some (vR 15 20 0)] [] M (some (vI x)) N := by
  unfold f_X10_mark at h
  refine Z_blk k_X10_mark 3 (pc' := 5) (lo' := [some (vR 15 20 0)]) (st' := [vI 3, vI (M 15 13)]) (M1 := M) rfl ?_
  refine Z_icmp k_X10_mark rfl 15 rfl (fun hc => ?_) (fun hc => ?_)
  · replace h := of_pos hc h
    refine Z_blk k_X10_mark 4 (pc' := 23) (lo' := [some (vR 15 20 0)]) (st' := [vI (M 15 13), vR 17 4 3]) (M1 := M) rfl ?_
    obtain ⟨hc1, h⟩ := of_grd h
    refine Z_one k_X10_mark rfl (pc' := 24) (lo' := [some (vR 15 20 0)]) (st' := [vR (17 + 65 + 19 * (Int.toNat (M 15 13))) 11 0]) (M1 := M) (if_pos hc1) ?_
    refine Z_blk k_X10_mark 2 (pc' := 28) (lo' := [some (vR 15 20 0)]) (st' := [vR 23 11 0, vR (17 + 65 + 19 * (Int.toNat (M 15 13))) 11 0]) (M1 := M) rfl ?_
    obtain ⟨x2, hx2, h⟩ := Option.bind_eq_some_iff.mp h
    refine Z_callV8 k_X10_mark k_X1_copyFrom rfl rfl (l_10_174) (ci := 1) rfl [vR 23 11 0] [] rfl rfl (Nat.le_of_ble_eq_true rfl) (Nat.le_of_ble_eq_true rfl) (e_X1_copyFrom (d + 0) (17 + 65 + 19 * (Int.toNat (M 15 13))) 23 M _ hx2) ?_
    refine Z_blk k_X10_mark 4 (pc' := 39) (lo' := [some (vR 15 20 0)]) (st' := [vI (x2 15 13), vR 18 5 3]) (M1 := x2) rfl ?_
    obtain ⟨hc3, h⟩ := of_grd h
    refine Z_one k_X10_mark rfl (pc' := 40) (lo' := [some (vR 15 20 0)]) (st' := [vR (18 + 75 + 19 * (Int.toNat (x2 15 13))) 18 0]) (M1 := x2) (if_pos hc3) ?_
    refine Z_blk k_X10_mark 2 (pc' := 44) (lo' := [some (vR 15 20 0)]) (st' := [vR 45 18 0, vR (18 + 75 + 19 * (Int.toNat (x2 15 13))) 18 0]) (M1 := x2) rfl ?_
    obtain ⟨x4, hx4, h⟩ := Option.bind_eq_some_iff.mp h
    refine Z_callV8 k_X10_mark k_X8_copyFrom rfl rfl (l_10_193) (ci := 8) rfl [vR 45 18 0] [] rfl rfl (Nat.le_of_ble_eq_true rfl) (Nat.le_of_ble_eq_true rfl) (e_X8_copyFrom (d + 0) (18 + 75 + 19 * (Int.toNat (x2 15 13))) 45 x2 _ hx4) ?_
    obtain ⟨M5, eM5, h⟩ := of_zlet h
    refine Z_blk k_X10_mark 6 (pc' := 57) (lo' := [some (vR 15 20 0)]) (st' := []) (M1 := M5) (by rw [eM5]; rfl) ?_
    refine Z_blk k_X10_mark 3 (pc' := 62) (lo' := [some (vR 15 20 0)]) (st' := [vI (M5 15 13), vR 15 20 0]) (M1 := M5) rfl ?_
    obtain ⟨x6, hx6, h⟩ := Option.bind_eq_some_iff.mp h
    refine Z_callV8 k_X10_mark k_X10_answer rfl rfl (l_10_184) (ci := 10) rfl [vI (M5 15 13)] [] rfl rfl (Nat.le_of_ble_eq_true rfl) (Nat.le_of_ble_eq_true rfl) (e_X10_answer (d + 0) (M5 15 13) M5 _ _ hx6) ?_
    cases h
    exact Z_ret ⟨Or.inl rfl, _, rfl⟩ rfl
  · replace h := of_neg hc h
    refine Z_blk k_X10_mark 2 (pc' := 11) (lo' := [some (vR 15 20 0)]) (st' := [vI 7, vR 15 20 0]) (M1 := M) rfl ?_
    obtain ⟨x7, hx7, h⟩ := Option.bind_eq_some_iff.mp h
    refine Z_callV8 k_X10_mark k_X10_fail rfl rfl (l_10_130) (ci := 10) rfl [vI 7] [] rfl rfl (Nat.le_of_ble_eq_true rfl) (Nat.le_of_ble_eq_true rfl) (e_X10_fail (d + 0) 7 M _ _ hx7) ?_
    cases h
    exact Z_ret ⟨Or.inl rfl, _, rfl⟩ rfl
def f_X10_back (M : AM) : Option (Int × AM) := if 1 ≤ M 15 13 then (zlet (am_upd M 15 13 (o_sub (M 15 13) 1)) fun M1 => if 0 ≤ M1 15 13 ∧ M1 15 13 < 3 then ((f_X1_copyFrom 23 (17 + 65 + 19 * (Int.toNat (M1 15 13))) M1).bind fun x3 => if 0 ≤ x3 15 13 ∧ x3 15 13 < 3 then ((f_X8_copyFrom 45 (18 + 75 + 19 * (Int.toNat (x3 15 13))) x3).bind fun x5 => (f_X10_answer (x5 15 13) x5).bind fun x6 => some (x6.1, x6.2)) else none) else none) else ((f_X10_fail 8 M).bind fun x7 => some (x7.1, x7.2))
theorem e_X10_back {Y : List (Nat × Nat)} (d : Nat) (M : AM) (x : Int) (N : AM) (h : f_X10_back M = some (x, N)) : Ev Y (d + 1) m_X10_back 0 [some (vR 15 20 0)] [] M (some (vI x)) N := by
  unfold f_X10_back at h
  refine Z_blk k_X10_back 3 (pc' := 5) (lo' := [some (vR 15 20 0)]) (st' := [vI 1, vI (M 15 13)]) (M1 := M) rfl ?_
  refine Z_icmp k_X10_back rfl 15 rfl (fun hc => ?_) (fun hc => ?_)
  · replace h := of_pos hc h
    obtain ⟨M1, eM1, h⟩ := of_zlet h
    refine Z_blk k_X10_back 6 (pc' := 25) (lo' := [some (vR 15 20 0)]) (st' := []) (M1 := M1) (by rw [eM1]; rfl) ?_
    refine Z_blk k_X10_back 6 (pc' := 37) (lo' := [some (vR 15 20 0)]) (st' := [vI (M1 15 13), vR 17 4 3, vR 23 11 0]) (M1 := M1) rfl ?_
    obtain ⟨hc2, h⟩ := of_grd h
    refine Z_one k_X10_back rfl (pc' := 38) (lo' := [some (vR 15 20 0)]) (st' := [vR (17 + 65 + 19 * (Int.toNat (M1 15 13))) 11 0, vR 23 11 0]) (M1 := M1) (if_pos hc2) ?_
    obtain ⟨x3, hx3, h⟩ := Option.bind_eq_some_iff.mp h
    refine Z_callV8 k_X10_back k_X1_copyFrom rfl rfl (l_10_174) (ci := 1) rfl [vR (17 + 65 + 19 * (Int.toNat (M1 15 13))) 11 0] [] rfl rfl (Nat.le_of_ble_eq_true rfl) (Nat.le_of_ble_eq_true rfl) (e_X1_copyFrom (d + 0) 23 (17 + 65 + 19 * (Int.toNat (M1 15 13))) M1 _ hx3) ?_
    refine Z_blk k_X10_back 6 (pc' := 53) (lo' := [some (vR 15 20 0)]) (st' := [vI (x3 15 13), vR 18 5 3, vR 45 18 0]) (M1 := x3) rfl ?_
    obtain ⟨hc4, h⟩ := of_grd h
    refine Z_one k_X10_back rfl (pc' := 54) (lo' := [some (vR 15 20 0)]) (st' := [vR (18 + 75 + 19 * (Int.toNat (x3 15 13))) 18 0, vR 45 18 0]) (M1 := x3) (if_pos hc4) ?_
    obtain ⟨x5, hx5, h⟩ := Option.bind_eq_some_iff.mp h
    refine Z_callV8 k_X10_back k_X8_copyFrom rfl rfl (l_10_193) (ci := 8) rfl [vR (18 + 75 + 19 * (Int.toNat (x3 15 13))) 18 0] [] rfl rfl (Nat.le_of_ble_eq_true rfl) (Nat.le_of_ble_eq_true rfl) (e_X8_copyFrom (d + 0) 45 (18 + 75 + 19 * (Int.toNat (x3 15 13))) x3 _ hx5) ?_
    refine Z_blk k_X10_back 3 (pc' := 62) (lo' := [some (vR 15 20 0)]) (st' := [vI (x5 15 13), vR 15 20 0]) (M1 := x5) rfl ?_
    obtain ⟨x6, hx6, h⟩ := Option.bind_eq_some_iff.mp h
    refine Z_callV8 k_X10_back k_X10_answer rfl rfl (l_10_184) (ci := 10) rfl [vI (x5 15 13)] [] rfl rfl (Nat.le_of_ble_eq_true rfl) (Nat.le_of_ble_eq_true rfl) (e_X10_answer (d + 0) (x5 15 13) x5 _ _ hx6) ?_
    cases h
    exact Z_ret ⟨Or.inl rfl, _, rfl⟩ rfl
  · replace h := of_neg hc h
    refine Z_blk k_X10_back 2 (pc' := 11) (lo' := [some (vR 15 20 0)]) (st' := [vI 8, vR 15 20 0]) (M1 := M) rfl ?_
    obtain ⟨x7, hx7, h⟩ := Option.bind_eq_some_iff.mp h
    refine Z_callV8 k_X10_back k_X10_fail rfl rfl (l_10_130) (ci := 10) rfl [vI 8] [] rfl rfl (Nat.le_of_ble_eq_true rfl) (Nat.le_of_ble_eq_true rfl) (e_X10_fail (d + 0) 8 M _ _ hx7) ?_
    cases h
    exact Z_ret ⟨Or.inl rfl, _, rfl⟩ rfl
def f_X11_status (M : AM) : Option (Int × AM) := zlet (am_upd M 0 1 0) fun M1 => some (M1 0 0, M1)
theorem e_X11_status {Y : List (Nat × Nat)} (d : Nat) (M : AM) (x : Int) (N : AM) (h : f_X11_status M = some (x, N)) : Ev Y (d + 0) m_X11_status 0 [some (vR 0 21 0)] [] M (some (vI x)) N := by
  unfold f_X11_status at h
  obtain ⟨M1, eM1, h⟩ := of_zlet h
  refine Z_blk k_X11_status 3 (pc' := 5) (lo' := [some (vR 0 21 0)]) (st' := []) (M1 := M1) (by rw [eM1]; rfl) ?_
  refine Z_blk k_X11_status 2 (pc' := 9) (lo' := [some (vR 0 21 0)]) (st' := [vI (M1 0 0)]) (M1 := M1) rfl ?_
  cases h
  exact Z_ret ⟨Or.inl rfl, _, rfl⟩ rfl
def f_X11_top (M : AM) : Option (Int × AM) := zlet (am_upd M 0 1 0) fun M1 => some (M1 0 2, M1)
theorem e_X11_top {Y : List (Nat × Nat)} (d : Nat) (M : AM) (x : Int) (N : AM) (h : f_X11_top M = some (x, N)) : Ev Y (d + 0) m_X11_top 0 [some (vR 0 21 0)] [] M (some (vL x)) N := by
  unfold f_X11_top at h
  obtain ⟨M1, eM1, h⟩ := of_zlet h
  refine Z_blk k_X11_top 3 (pc' := 5) (lo' := [some (vR 0 21 0)]) (st' := []) (M1 := M1) (by rw [eM1]; rfl) ?_
  refine Z_blk k_X11_top 2 (pc' := 9) (lo' := [some (vR 0 21 0)]) (st' := [vL (M1 0 2)]) (M1 := M1) rfl ?_
  cases h
  exact Z_ret ⟨rfl, _, rfl⟩ rfl
def f_X11_bottom (M : AM) : Option (Int × AM) := zlet (am_upd M 0 1 0) fun M1 => some (M1 0 3, M1)
theorem e_X11_bottom {Y : List (Nat × Nat)} (d : Nat) (M : AM) (x : Int) (N : AM) (h : f_X11_bottom M = some (x, N)) : Ev Y (d + 0) m_X11_bottom 0 [some (vR 0 21 0)] [] M (some (vL x)) N := by
  unfold f_X11_bottom at h
  obtain ⟨M1, eM1, h⟩ := of_zlet h
  refine Z_blk k_X11_bottom 3 (pc' := 5) (lo' := [some (vR 0 21 0)]) (st' := []) (M1 := M1) (by rw [eM1]; rfl) ?_
  refine Z_blk k_X11_bottom 2 (pc' := 9) (lo' := [some (vR 0 21 0)]) (st' := [vL (M1 0 3)]) (M1 := M1) rfl ?_
  cases h
  exact Z_ret ⟨rfl, _, rfl⟩ rfl
def f_X11_refuse (a1 : Int) (M : AM) : Option (Int × AM) := zlet (am_upd M 0 0 a1) fun M1 => some ((-1), M1)
theorem e_X11_refuse {Y : List (Nat × Nat)} (d : Nat) (a1 : Int) (M : AM) (x : Int) (N : AM) (h : f_X11_refuse a1 M = some (x, N)) : Ev Y (d + 0) m_X11_refuse 0 [some (vR 0 21 0), some (vI a1)] [] M (some (vI x)) N := by
  unfold f_X11_refuse at h
  obtain ⟨M1, eM1, h⟩ := of_zlet h
  refine Z_blk k_X11_refuse 3 (pc' := 5) (lo' := [some (vR 0 21 0), some (vI a1)]) (st' := []) (M1 := M1) (by rw [eM1]; rfl) ?_
  refine Z_blk k_X11_refuse 1 (pc' := 6) (lo' := [some (vR 0 21 0), some (vI a1)]) (st' := [vI (-1)]) (M1 := M1) rfl ?_
  cases h
  exact Z_ret ⟨Or.inl rfl, _, rfl⟩ rfl
def f_X11_no (a1 : Int) (M : AM) : Option (Int × AM) := zlet (am_upd M 0 0 a1) fun M1 => some (0, M1)
theorem e_X11_no {Y : List (Nat × Nat)} (d : Nat) (a1 : Int) (M : AM) (x : Int) (N : AM) (h : f_X11_no a1 M = some (x, N)) : Ev Y (d + 0) m_X11_no 0 [some (vR 0 21 0), some (vI a1)] [] M (some (vI x)) N := by
  unfold f_X11_no at h
  obtain ⟨M1, eM1, h⟩ := of_zlet h
  refine Z_blk k_X11_no 3 (pc' := 5) (lo' := [some (vR 0 21 0), some (vI a1)]) (st' := []) (M1 := M1) (by rw [eM1]; rfl) ?_
  refine Z_blk k_X11_no 1 (pc' := 6) (lo' := [some (vR 0 21 0), some (vI a1)]) (st' := [vI 0]) (M1 := M1) rfl ?_
  cases h
  exact Z_ret ⟨Or.inr ⟨rfl, Or.inl rfl⟩, _, rfl⟩ rfl
def f_X11_isIn (a0 : Int) (a2 : Int) (a4 : Int) (M : AM) : Option (Int × AM) := if l_cmp a0 a2 < 0 then some (0, M) else (if 0 < l_cmp a0 a4 then some (0, M) else some (1, M))
theorem e_X11_isIn {Y : List (Nat × Nat)} (d : Nat) (a0 : Int) (a2 : Int) (a4 : Int) (M : AM) (x : Int) (N : AM) (h : f_X11_isIn a0 a2 a4 M = some (x, N)) : Ev Y (d + 0) m_X11_isIn 0 [some (vL a0), none, some (vL a2), none, some (vL a4), none] [] M (some (vI x)) N := by
  unfold f_X11_isIn at h
  refine Z_blk k_X11_isIn 3 (pc' := 3) (lo' := [some (vL a0), none, some (vL a2), none, some (vL a4), none]) (st' := [vI (l_cmp a0 a2)]) (M1 := M) rfl ?_
  refine Z_if k_X11_isIn rfl 17 rfl (fun hc => ?_) (fun hc => ?_)
  · replace h := of_pos hc h
    refine Z_blk k_X11_isIn 1 (pc' := 18) (lo' := [some (vL a0), none, some (vL a2), none, some (vL a4), none]) (st' := [vI 0]) (M1 := M) rfl ?_
    cases h
    exact Z_ret ⟨Or.inr ⟨rfl, Or.inl rfl⟩, _, rfl⟩ rfl
  · replace h := of_neg hc h
    refine Z_blk k_X11_isIn 3 (pc' := 10) (lo' := [some (vL a0), none, some (vL a2), none, some (vL a4), none]) (st' := [vI (l_cmp a0 a4)]) (M1 := M) rfl ?_
    refine Z_if k_X11_isIn rfl 17 rfl (fun hc => ?_) (fun hc => ?_)
    · replace h := of_pos hc h
      refine Z_blk k_X11_isIn 1 (pc' := 18) (lo' := [some (vL a0), none, some (vL a2), none, some (vL a4), none]) (st' := [vI 0]) (M1 := M) rfl ?_
      cases h
      exact Z_ret ⟨Or.inr ⟨rfl, Or.inl rfl⟩, _, rfl⟩ rfl
    · replace h := of_neg hc h
      refine Z_blk k_X11_isIn 2 (pc' := 18) (lo' := [some (vL a0), none, some (vL a2), none, some (vL a4), none]) (st' := [vI 1]) (M1 := M) rfl ?_
      cases h
      exact Z_ret ⟨Or.inr ⟨rfl, Or.inr rfl⟩, _, rfl⟩ rfl
def f_X11_fraction_9 : Nat → Int → Int → Int → Int → AM → Option (Int × AM)
  | 0, _, _, _, _, _ => none
  | n + 1, a1, a3, a5, a7, M => if l_cmp a7 0 = 0 then (if a5 ≠ 0 then (zlet (am_upd M 0 2 (l_div a1 a5)) fun M2 => zlet (am_upd M2 0 3 (l_div a3 a5)) fun M3 => some (1, M3)) else none) else (if a7 ≠ 0 then f_X11_fraction_9 n a1 a3 a7 (l_rem a5 a7) M else none)
theorem e_X11_fraction_9 {Y : List (Nat × Nat)} (d : Nat) : ∀ (n : Nat) (a1 : Int) (a3 : Int) (a5 : Int) (a7 : Int) (M : AM) (x : Int) (N : AM), f_X11_fraction_9 n a1 a3 a5 a7 M = some (x, N) → Ev Y (d + 0) m_X11_fraction 9 [some (vR 0 21 0), some (vL a1), none, some (vL a3), none, some (vL a5), none, some (vL a7), none, none, none] [] M (some (vI x)) N := by
  intro n
  induction n with
  | zero => intro a1 a3 a5 a7 M x N h; cases h
  | succ n ih =>
    intro a1 a3 a5 a7 M x N h
    simp only [f_X11_fraction_9] at h
    refine Z_blk k_X11_fraction 3 (pc' := 13) (lo' := [some (vR 0 21 0), some (vL a1), none, some (vL a3), none, some (vL a5), none, some (vL a7), none, none, none]) (st' := [vI (l_cmp a7 0)]) (M1 := M) rfl ?_
    refine Z_if k_X11_fraction rfl 34 rfl (fun hc => ?_) (fun hc => ?_)
    · replace h := of_pos hc h
      refine Z_blk k_X11_fraction 3 (pc' := 38) (lo' := [some (vR 0 21 0), some (vL a1), none, some (vL a3), none, some (vL a5), none, some (vL a7), none, none, none]) (st' := [vL a5, vL a1, vR 0 21 0]) (M1 := M) rfl ?_
      obtain ⟨hc1, h⟩ := of_grd h
      refine Z_one k_X11_fraction rfl (pc' := 39) (lo' := [some (vR 0 21 0), some (vL a1), none, some (vL a3), none, some (vL a5), none, some (vL a7), none, none, none]) (st' := [vL (l_div a1 a5), vR 0 21 0]) (M1 := M) (if_pos hc1) ?_
      obtain ⟨M2, eM2, h⟩ := of_zlet h
      refine Z_blk k_X11_fraction 1 (pc' := 42) (lo' := [some (vR 0 21 0), some (vL a1), none, some (vL a3), none, some (vL a5), none, some (vL a7), none, none, none]) (st' := []) (M1 := M2) (by rw [eM2]; rfl) ?_
      refine Z_blk k_X11_fraction 3 (pc' := 46) (lo' := [some (vR 0 21 0), some (vL a1), none, some (vL a3), none, some (vL a5), none, some (vL a7), none, none, none]) (st' := [vL a5, vL a3, vR 0 21 0]) (M1 := M2) rfl ?_
      refine Z_one k_X11_fraction rfl (pc' := 47) (lo' := [some (vR 0 21 0), some (vL a1), none, some (vL a3), none, some (vL a5), none, some (vL a7), none, none, none]) (st' := [vL (l_div a3 a5), vR 0 21 0]) (M1 := M2) (if_pos hc1) ?_
      obtain ⟨M3, eM3, h⟩ := of_zlet h
      refine Z_blk k_X11_fraction 1 (pc' := 50) (lo' := [some (vR 0 21 0), some (vL a1), none, some (vL a3), none, some (vL a5), none, some (vL a7), none, none, none]) (st' := []) (M1 := M3) (by rw [eM3]; rfl) ?_
      refine Z_blk k_X11_fraction 1 (pc' := 51) (lo' := [some (vR 0 21 0), some (vL a1), none, some (vL a3), none, some (vL a5), none, some (vL a7), none, none, none]) (st' := [vI 1]) (M1 := M3) rfl ?_
      cases h
      exact Z_ret ⟨Or.inr ⟨rfl, Or.inr rfl⟩, _, rfl⟩ rfl
    · replace h := of_neg hc h
      refine Z_blk k_X11_fraction 2 (pc' := 20) (lo' := [some (vR 0 21 0), some (vL a1), none, some (vL a3), none, some (vL a5), none, some (vL a7), none, none, none]) (st' := [vL a7, vL a5]) (M1 := M) rfl ?_
      obtain ⟨hc4, h⟩ := of_grd h
      refine Z_one k_X11_fraction rfl (pc' := 21) (lo' := [some (vR 0 21 0), some (vL a1), none, some (vL a3), none, some (vL a5), none, some (vL a7), none, none, none]) (st' := [vL (l_rem a5 a7)]) (M1 := M) (if_pos hc4) ?_
      refine Z_blk k_X11_fraction 6 (pc' := 9) (lo' := [some (vR 0 21 0), some (vL a1), none, some (vL a3), none, some (vL a7), none, some (vL (l_rem a5 a7)), none, some (vL (l_rem a5 a7)), none]) (st' := []) (M1 := M) rfl ?_
      refine Z_mask [true, true, false, true, false, true, false, true, false, false, false] (lo0 := [some (vR 0 21 0), some (vL a1), none, some (vL a3), none, some (vL a7), none, some (vL (l_rem a5 a7)), none, none, none]) rfl ?_
      exact ih a1 a3 a7 (l_rem a5 a7) M _ _ h
def f_X11_fraction (a1 : Int) (a3 : Int) (M : AM) : Option (Int × AM) := f_X11_fraction_9 zB a1 a3 (l_abs a1) a3 M
theorem e_X11_fraction {Y : List (Nat × Nat)} (d : Nat) (a1 : Int) (a3 : Int) (M : AM) (x : Int) (N : AM) (h : f_X11_fraction a1 a3 M = some (x, N)) : Ev Y (d + 0) m_X11_fraction 0 [some (vR 0 21 0), some (vL a1), none, some (vL a3), none, none, none, none, none, none, none] [] M (some (vI x)) N := by
  unfold f_X11_fraction at h
  refine Z_blk k_X11_fraction 5 (pc' := 9) (lo' := [some (vR 0 21 0), some (vL a1), none, some (vL a3), none, some (vL (l_abs a1)), none, some (vL a3), none, none, none]) (st' := []) (M1 := M) rfl ?_
  refine Z_mask [true, true, false, true, false, true, false, true, false, false, false] (lo0 := [some (vR 0 21 0), some (vL a1), none, some (vL a3), none, some (vL (l_abs a1)), none, some (vL a3), none, none, none]) rfl ?_
  exact e_X11_fraction_9 d zB a1 a3 (l_abs a1) a3 M _ _ h
def f_X11_cut (a0 : Int) (a1 : Int) (M : AM) : Option (Int × AM) := if ¬ a0 = 0 then (if ¬ a0 = 1 then (if ¬ a0 = 2 then some (a1, M) else some (o_l2i a1, M)) else some (o_i2s (o_l2i a1), M)) else some (o_i2b (o_l2i a1), M)
theorem e_X11_cut {Y : List (Nat × Nat)} (d : Nat) (a0 : Int) (a1 : Int) (M : AM) (x : Int) (N : AM) (h : f_X11_cut a0 a1 M = some (x, N)) : Ev Y (d + 0) m_X11_cut 0 [some (vI a0), some (vL a1), none] [] M (some (vL x)) N := by
  unfold f_X11_cut at h
  refine Z_blk k_X11_cut 1 (pc' := 1) (lo' := [some (vI a0), some (vL a1), none]) (st' := [vI a0]) (M1 := M) rfl ?_
  refine Z_if k_X11_cut rfl 11 rfl (fun hc => ?_) (fun hc => ?_)
  · replace h := of_pos hc h
    refine Z_blk k_X11_cut 2 (pc' := 13) (lo' := [some (vI a0), some (vL a1), none]) (st' := [vI 1, vI a0]) (M1 := M) rfl ?_
    refine Z_icmp k_X11_cut rfl 23 rfl (fun hc => ?_) (fun hc => ?_)
    · replace h := of_pos hc h
      refine Z_blk k_X11_cut 2 (pc' := 25) (lo' := [some (vI a0), some (vL a1), none]) (st' := [vI 2, vI a0]) (M1 := M) rfl ?_
      refine Z_icmp k_X11_cut rfl 34 rfl (fun hc => ?_) (fun hc => ?_)
      · replace h := of_pos hc h
        refine Z_blk k_X11_cut 1 (pc' := 35) (lo' := [some (vI a0), some (vL a1), none]) (st' := [vL a1]) (M1 := M) rfl ?_
        cases h
        exact Z_ret ⟨rfl, _, rfl⟩ rfl
      · replace h := of_neg hc h
        refine Z_blk k_X11_cut 4 (pc' := 35) (lo' := [some (vI a0), some (vL a1), none]) (st' := [vL (o_l2i a1)]) (M1 := M) rfl ?_
        cases h
        exact Z_ret ⟨rfl, _, rfl⟩ rfl
    · replace h := of_neg hc h
      refine Z_blk k_X11_cut 5 (pc' := 35) (lo' := [some (vI a0), some (vL a1), none]) (st' := [vL (o_i2s (o_l2i a1))]) (M1 := M) rfl ?_
      cases h
      exact Z_ret ⟨rfl, _, rfl⟩ rfl
  · replace h := of_neg hc h
    refine Z_blk k_X11_cut 5 (pc' := 35) (lo' := [some (vI a0), some (vL a1), none]) (st' := [vL (o_i2b (o_l2i a1))]) (M1 := M) rfl ?_
    cases h
    exact Z_ret ⟨rfl, _, rfl⟩ rfl
theorem l_11_84 : zhas 6157 (Jvm.Cond.methodLink "BellPullHouseModel" 84 yX11_no) = true := by decide +kernel
def f_X11_tray_28 (M : AM) : Option (Int × AM) := (f_X11_no 1 M).bind fun x1 => if x1.1 = 0 ∨ x1.1 = 1 then some (x1.1, x1.2) else none
theorem e_X11_tray_28 {Y : List (Nat × Nat)} (d : Nat) (M : AM) (x : Int) (N : AM) (h : f_X11_tray_28 M = some (x, N)) : Ev Y (d + 1) m_X11_tray 28 [some (vR 0 21 0), none, none, none, none] [] M (some (vI x)) N := by
  unfold f_X11_tray_28 at h
  refine Z_blk k_X11_tray 2 (pc' := 30) (lo' := [some (vR 0 21 0), none, none, none, none]) (st' := [vI 1, vR 0 21 0]) (M1 := M) rfl ?_
  obtain ⟨x1, hx1, h⟩ := Option.bind_eq_some_iff.mp h
  refine Z_callV8 k_X11_tray k_X11_no rfl rfl (l_11_84) (ci := 11) rfl [vI 1] [] rfl rfl (Nat.le_of_ble_eq_true rfl) (Nat.le_of_ble_eq_true rfl) (e_X11_no (d + 0) 1 M _ _ hx1) ?_
  obtain ⟨hc2, h⟩ := of_grd h
  cases h
  exact Z_ret ⟨Or.inr ⟨rfl, hc2⟩, _, rfl⟩ rfl
def f_X11_tray_74 : Nat → Int → Int → Int → AM → Option (Int × AM)
  | 0, _, _, _, _ => none
  | n + 1, a1, a3, a4, M => if a3 ≤ a4 then some (1, M) else (if 0 ≤ o_add (o_mul 60 a1) a4 ∧ o_add (o_mul 60 a1) a4 < 240 then (zlet (am_upd M 3 (Int.toNat (o_add (o_mul 60 a1) a4)) 0) fun M2 => f_X11_tray_74 n a1 a3 (o_add a4 1) M2) else none)
theorem e_X11_tray_74 {Y : List (Nat × Nat)} (d : Nat) : ∀ (n : Nat) (a1 : Int) (a3 : Int) (a4 : Int) (M : AM) (x : Int) (N : AM), f_X11_tray_74 n a1 a3 a4 M = some (x, N) → Ev Y (d + 1) m_X11_tray 74 [some (vR 0 21 0), some (vI a1), none, some (vI a3), some (vI a4)] [] M (some (vI x)) N := by
  intro n
  induction n with
  | zero => intro a1 a3 a4 M x N h; cases h
  | succ n ih =>
    intro a1 a3 a4 M x N h
    simp only [f_X11_tray_74] at h
    refine Z_blk k_X11_tray 2 (pc' := 77) (lo' := [some (vR 0 21 0), some (vI a1), none, some (vI a3), some (vI a4)]) (st' := [vI a3, vI a4]) (M1 := M) rfl ?_
    refine Z_icmp k_X11_tray rfl 99 rfl (fun hc => ?_) (fun hc => ?_)
    · replace h := of_pos hc h
      refine Z_blk k_X11_tray 1 (pc' := 100) (lo' := [some (vR 0 21 0), some (vI a1), none, some (vI a3), some (vI a4)]) (st' := [vI 1]) (M1 := M) rfl ?_
      cases h
      exact Z_ret ⟨Or.inr ⟨rfl, Or.inr rfl⟩, _, rfl⟩ rfl
    · replace h := of_neg hc h
      refine Z_blk k_X11_tray 8 (pc' := 92) (lo' := [some (vR 0 21 0), some (vI a1), none, some (vI a3), some (vI a4)]) (st' := [vL 0, vI (o_add (o_mul 60 a1) a4), vR 3 1 240]) (M1 := M) rfl ?_
      obtain ⟨hc1, h⟩ := of_grd h
      obtain ⟨M2, eM2, h⟩ := of_zlet h
      refine Z_one k_X11_tray rfl (pc' := 93) (lo' := [some (vR 0 21 0), some (vI a1), none, some (vI a3), some (vI a4)]) (st' := []) (M1 := M2) (by rw [eM2]; exact if_pos hc1) ?_
      refine Z_blk k_X11_tray 2 (pc' := 74) (lo' := [some (vR 0 21 0), some (vI a1), none, some (vI a3), some (vI (o_add a4 1))]) (st' := []) (M1 := M2) rfl ?_
      refine Z_mask [true, true, false, true, true] (lo0 := [some (vR 0 21 0), some (vI a1), none, some (vI a3), some (vI (o_add a4 1))]) rfl ?_
      exact ih a1 a3 (o_add a4 1) M2 _ _ h
def f_X11_tray (a1 : Int) (a2 : Int) (a3 : Int) (M : AM) : Option (Int × AM) := zlet (am_upd M 0 1 0) fun M1 => zlet (am_upd M1 0 0 0) fun M2 => if a1 < 0 then f_X11_tray_28 M2 else (if 4 ≤ a1 then f_X11_tray_28 M2 else (if a2 < 0 then f_X11_tray_28 M2 else (if a2 ≤ 3 then (if a3 ≤ 60 then (if 0 ≤ a3 then (if 0 ≤ a1 ∧ a1 < 4 then (zlet (am_upd M2 1 (Int.toNat a1) a2) fun M4 => zlet (am_upd M4 2 (Int.toNat a1) a3) fun M5 => f_X11_tray_74 zB a1 a3 0 M5) else none) else ((f_X11_no 6 M2).bind fun x6 => if x6.1 = 0 ∨ x6.1 = 1 then some (x6.1, x6.2) else none)) else ((f_X11_no 5 M2).bind fun x8 => if x8.1 = 0 ∨ x8.1 = 1 then some (x8.1, x8.2) else none)) else f_X11_tray_28 M2)))
theorem e_X11_tray {Y : List (Nat × Nat)} (d : Nat) (a1 : Int) (a2 : Int) (a3 : Int) (M : AM) (x : Int) (N : AM) (h : f_X11_tray a1 a2 a3 M = some (x, N)) : Ev Y (d + 1) m_X11_tray 0 [some (vR 0 21 0), some (vI a1), some (vI a2), some (vI a3), none] [] M (some (vI x)) N := by
  unfold f_X11_tray at h
  obtain ⟨M1, eM1, h⟩ := of_zlet h
  refine Z_blk k_X11_tray 3 (pc' := 5) (lo' := [some (vR 0 21 0), some (vI a1), some (vI a2), some (vI a3), none]) (st' := []) (M1 := M1) (by rw [eM1]; rfl) ?_
  obtain ⟨M2, eM2, h⟩ := of_zlet h
  refine Z_blk k_X11_tray 3 (pc' := 10) (lo' := [some (vR 0 21 0), some (vI a1), some (vI a2), some (vI a3), none]) (st' := []) (M1 := M2) (by rw [eM2]; rfl) ?_
  refine Z_blk k_X11_tray 1 (pc' := 11) (lo' := [some (vR 0 21 0), some (vI a1), some (vI a2), some (vI a3), none]) (st' := [vI a1]) (M1 := M2) rfl ?_
  refine Z_if k_X11_tray rfl 28 rfl (fun hc => ?_) (fun hc => ?_)
  · replace h := of_pos hc h
    refine Z_mask [true, false, false, false, false] (lo0 := [some (vR 0 21 0), none, none, none, none]) rfl ?_
    exact e_X11_tray_28 d M2 _ _ h
  · replace h := of_neg hc h
    refine Z_blk k_X11_tray 2 (pc' := 16) (lo' := [some (vR 0 21 0), some (vI a1), some (vI a2), some (vI a3), none]) (st' := [vI 4, vI a1]) (M1 := M2) rfl ?_
    refine Z_icmp k_X11_tray rfl 28 rfl (fun hc => ?_) (fun hc => ?_)
    · replace h := of_pos hc h
      refine Z_mask [true, false, false, false, false] (lo0 := [some (vR 0 21 0), none, none, none, none]) rfl ?_
      exact e_X11_tray_28 d M2 _ _ h
    · replace h := of_neg hc h
      refine Z_blk k_X11_tray 1 (pc' := 20) (lo' := [some (vR 0 21 0), some (vI a1), some (vI a2), some (vI a3), none]) (st' := [vI a2]) (M1 := M2) rfl ?_
      refine Z_if k_X11_tray rfl 28 rfl (fun hc => ?_) (fun hc => ?_)
      · replace h := of_pos hc h
        refine Z_mask [true, false, false, false, false] (lo0 := [some (vR 0 21 0), none, none, none, none]) rfl ?_
        exact e_X11_tray_28 d M2 _ _ h
      · replace h := of_neg hc h
        refine Z_blk k_X11_tray 2 (pc' := 25) (lo' := [some (vR 0 21 0), some (vI a1), some (vI a2), some (vI a3), none]) (st' := [vI 3, vI a2]) (M1 := M2) rfl ?_
        refine Z_icmp k_X11_tray rfl 34 rfl (fun hc => ?_) (fun hc => ?_)
        · replace h := of_pos hc h
          refine Z_blk k_X11_tray 2 (pc' := 37) (lo' := [some (vR 0 21 0), some (vI a1), some (vI a2), some (vI a3), none]) (st' := [vI 60, vI a3]) (M1 := M2) rfl ?_
          refine Z_icmp k_X11_tray rfl 46 rfl (fun hc => ?_) (fun hc => ?_)
          · replace h := of_pos hc h
            refine Z_blk k_X11_tray 1 (pc' := 47) (lo' := [some (vR 0 21 0), some (vI a1), some (vI a2), some (vI a3), none]) (st' := [vI a3]) (M1 := M2) rfl ?_
            refine Z_if k_X11_tray rfl 57 rfl (fun hc => ?_) (fun hc => ?_)
            · replace h := of_pos hc h
              refine Z_blk k_X11_tray 4 (pc' := 63) (lo' := [some (vR 0 21 0), some (vI a1), some (vI a2), some (vI a3), none]) (st' := [vI a2, vI a1, vR 1 0 4]) (M1 := M2) rfl ?_
              obtain ⟨hc3, h⟩ := of_grd h
              obtain ⟨M4, eM4, h⟩ := of_zlet h
              refine Z_one k_X11_tray rfl (pc' := 64) (lo' := [some (vR 0 21 0), some (vI a1), some (vI a2), some (vI a3), none]) (st' := []) (M1 := M4) (by rw [eM4]; exact if_pos hc3) ?_
              refine Z_blk k_X11_tray 4 (pc' := 70) (lo' := [some (vR 0 21 0), some (vI a1), some (vI a2), some (vI a3), none]) (st' := [vI a3, vI a1, vR 2 0 4]) (M1 := M4) rfl ?_
              obtain ⟨M5, eM5, h⟩ := of_zlet h
              refine Z_one k_X11_tray rfl (pc' := 71) (lo' := [some (vR 0 21 0), some (vI a1), some (vI a2), some (vI a3), none]) (st' := []) (M1 := M5) (by rw [eM5]; exact if_pos hc3) ?_
              refine Z_blk k_X11_tray 2 (pc' := 74) (lo' := [some (vR 0 21 0), some (vI a1), some (vI a2), some (vI a3), some (vI 0)]) (st' := []) (M1 := M5) rfl ?_
              refine Z_mask [true, true, false, true, true] (lo0 := [some (vR 0 21 0), some (vI a1), none, some (vI a3), some (vI 0)]) rfl ?_
              exact e_X11_tray_74 d zB a1 a3 0 M5 _ _ h
            · replace h := of_neg hc h
              refine Z_blk k_X11_tray 2 (pc' := 53) (lo' := [some (vR 0 21 0), some (vI a1), some (vI a2), some (vI a3), none]) (st' := [vI 6, vR 0 21 0]) (M1 := M2) rfl ?_
              obtain ⟨x6, hx6, h⟩ := Option.bind_eq_some_iff.mp h
              refine Z_callV8 k_X11_tray k_X11_no rfl rfl (l_11_84) (ci := 11) rfl [vI 6] [] rfl rfl (Nat.le_of_ble_eq_true rfl) (Nat.le_of_ble_eq_true rfl) (e_X11_no (d + 0) 6 M2 _ _ hx6) ?_
              obtain ⟨hc7, h⟩ := of_grd h
              cases h
              exact Z_ret ⟨Or.inr ⟨rfl, hc7⟩, _, rfl⟩ rfl
          · replace h := of_neg hc h
            refine Z_blk k_X11_tray 2 (pc' := 42) (lo' := [some (vR 0 21 0), some (vI a1), some (vI a2), some (vI a3), none]) (st' := [vI 5, vR 0 21 0]) (M1 := M2) rfl ?_
            obtain ⟨x8, hx8, h⟩ := Option.bind_eq_some_iff.mp h
            refine Z_callV8 k_X11_tray k_X11_no rfl rfl (l_11_84) (ci := 11) rfl [vI 5] [] rfl rfl (Nat.le_of_ble_eq_true rfl) (Nat.le_of_ble_eq_true rfl) (e_X11_no (d + 0) 5 M2 _ _ hx8) ?_
            obtain ⟨hc9, h⟩ := of_grd h
            cases h
            exact Z_ret ⟨Or.inr ⟨rfl, hc9⟩, _, rfl⟩ rfl
        · replace h := of_neg hc h
          refine Z_mask [true, false, false, false, false] (lo0 := [some (vR 0 21 0), none, none, none, none]) rfl ?_
          exact e_X11_tray_28 d M2 _ _ h
def f_X11_trayed (a1 : Int) (M : AM) : Option (Int × AM) := if a1 < 0 then some (1, M) else (if a1 < 4 then (if 0 ≤ a1 ∧ a1 < 4 then (if 0 ≤ M 2 (Int.toNat a1) then some (0, M) else some (3, M)) else none) else some (1, M))
theorem e_X11_trayed {Y : List (Nat × Nat)} (d : Nat) (a1 : Int) (M : AM) (x : Int) (N : AM) (h : f_X11_trayed a1 M = some (x, N)) : Ev Y (d + 0) m_X11_trayed 0 [some (vR 0 21 0), some (vI a1)] [] M (some (vI x)) N := by
  unfold f_X11_trayed at h
  refine Z_blk k_X11_trayed 1 (pc' := 1) (lo' := [some (vR 0 21 0), some (vI a1)]) (st' := [vI a1]) (M1 := M) rfl ?_
  refine Z_if k_X11_trayed rfl 9 rfl (fun hc => ?_) (fun hc => ?_)
  · replace h := of_pos hc h
    refine Z_blk k_X11_trayed 2 (pc' := 27) (lo' := [some (vR 0 21 0), some (vI a1)]) (st' := [vI 1]) (M1 := M) rfl ?_
    cases h
    exact Z_ret ⟨Or.inl rfl, _, rfl⟩ rfl
  · replace h := of_neg hc h
    refine Z_blk k_X11_trayed 2 (pc' := 6) (lo' := [some (vR 0 21 0), some (vI a1)]) (st' := [vI 4, vI a1]) (M1 := M) rfl ?_
    refine Z_icmp k_X11_trayed rfl 13 rfl (fun hc => ?_) (fun hc => ?_)
    · replace h := of_pos hc h
      refine Z_blk k_X11_trayed 3 (pc' := 18) (lo' := [some (vR 0 21 0), some (vI a1)]) (st' := [vI a1, vR 2 0 4]) (M1 := M) rfl ?_
      obtain ⟨hc1, h⟩ := of_grd h
      refine Z_one k_X11_trayed rfl (pc' := 19) (lo' := [some (vR 0 21 0), some (vI a1)]) (st' := [vI (M 2 (Int.toNat a1))]) (M1 := M) (if_pos hc1) ?_
      refine Z_if k_X11_trayed rfl 26 rfl (fun hc => ?_) (fun hc => ?_)
      · replace h := of_pos hc h
        refine Z_blk k_X11_trayed 1 (pc' := 27) (lo' := [some (vR 0 21 0), some (vI a1)]) (st' := [vI 0]) (M1 := M) rfl ?_
        cases h
        exact Z_ret ⟨Or.inl rfl, _, rfl⟩ rfl
      · replace h := of_neg hc h
        refine Z_blk k_X11_trayed 2 (pc' := 27) (lo' := [some (vR 0 21 0), some (vI a1)]) (st' := [vI 3]) (M1 := M) rfl ?_
        cases h
        exact Z_ret ⟨Or.inl rfl, _, rfl⟩ rfl
    · replace h := of_neg hc h
      refine Z_blk k_X11_trayed 2 (pc' := 27) (lo' := [some (vR 0 21 0), some (vI a1)]) (st' := [vI 1]) (M1 := M) rfl ?_
      cases h
      exact Z_ret ⟨Or.inl rfl, _, rfl⟩ rfl
theorem l_11_88 : zhas 6169 (Jvm.Cond.methodLink "BellPullHouseModel" 88 yX11_trayed) = true := by decide +kernel
def f_X11_placed (a1 : Int) (a2 : Int) (M : AM) : Option (Int × AM) := (f_X11_trayed a1 M).bind fun x1 => if x1.1 ≤ 0 then (if a2 < 0 then some (4, x1.2) else (if 0 ≤ a1 ∧ a1 < 4 then (if a2 < x1.2 2 (Int.toNat a1) then some (0, x1.2) else some (4, x1.2)) else none)) else some (x1.1, x1.2)
theorem e_X11_placed {Y : List (Nat × Nat)} (d : Nat) (a1 : Int) (a2 : Int) (M : AM) (x : Int) (N : AM) (h : f_X11_placed a1 a2 M = some (x, N)) : Ev Y (d + 1) m_X11_placed 0 [some (vR 0 21 0), some (vI a1), some (vI a2), none] [] M (some (vI x)) N := by
  unfold f_X11_placed at h
  refine Z_blk k_X11_placed 2 (pc' := 2) (lo' := [some (vR 0 21 0), some (vI a1), some (vI a2), none]) (st' := [vI a1, vR 0 21 0]) (M1 := M) rfl ?_
  obtain ⟨x1, hx1, h⟩ := Option.bind_eq_some_iff.mp h
  refine Z_callV8 k_X11_placed k_X11_trayed rfl rfl (l_11_88) (ci := 11) rfl [vI a1] [] rfl rfl (Nat.le_of_ble_eq_true rfl) (Nat.le_of_ble_eq_true rfl) (e_X11_trayed (d + 0) a1 M _ _ hx1) ?_
  refine Z_blk k_X11_placed 2 (pc' := 7) (lo' := [some (vR 0 21 0), some (vI a1), some (vI a2), some (vI x1.1)]) (st' := [vI x1.1]) (M1 := x1.2) rfl ?_
  refine Z_if k_X11_placed rfl 14 rfl (fun hc => ?_) (fun hc => ?_)
  · replace h := of_pos hc h
    refine Z_blk k_X11_placed 1 (pc' := 15) (lo' := [some (vR 0 21 0), some (vI a1), some (vI a2), some (vI x1.1)]) (st' := [vI a2]) (M1 := x1.2) rfl ?_
    refine Z_if k_X11_placed rfl 28 rfl (fun hc => ?_) (fun hc => ?_)
    · replace h := of_pos hc h
      refine Z_blk k_X11_placed 2 (pc' := 33) (lo' := [some (vR 0 21 0), some (vI a1), some (vI a2), some (vI x1.1)]) (st' := [vI 4]) (M1 := x1.2) rfl ?_
      cases h
      exact Z_ret ⟨Or.inl rfl, _, rfl⟩ rfl
    · replace h := of_neg hc h
      refine Z_blk k_X11_placed 4 (pc' := 24) (lo' := [some (vR 0 21 0), some (vI a1), some (vI a2), some (vI x1.1)]) (st' := [vI a1, vR 2 0 4, vI a2]) (M1 := x1.2) rfl ?_
      obtain ⟨hc2, h⟩ := of_grd h
      refine Z_one k_X11_placed rfl (pc' := 25) (lo' := [some (vR 0 21 0), some (vI a1), some (vI a2), some (vI x1.1)]) (st' := [vI (x1.2 2 (Int.toNat a1)), vI a2]) (M1 := x1.2) (if_pos hc2) ?_
      refine Z_icmp k_X11_placed rfl 32 rfl (fun hc => ?_) (fun hc => ?_)
      · replace h := of_pos hc h
        refine Z_blk k_X11_placed 1 (pc' := 33) (lo' := [some (vR 0 21 0), some (vI a1), some (vI a2), some (vI x1.1)]) (st' := [vI 0]) (M1 := x1.2) rfl ?_
        cases h
        exact Z_ret ⟨Or.inl rfl, _, rfl⟩ rfl
      · replace h := of_neg hc h
        refine Z_blk k_X11_placed 2 (pc' := 33) (lo' := [some (vR 0 21 0), some (vI a1), some (vI a2), some (vI x1.1)]) (st' := [vI 4]) (M1 := x1.2) rfl ?_
        cases h
        exact Z_ret ⟨Or.inl rfl, _, rfl⟩ rfl
  · replace h := of_neg hc h
    refine Z_blk k_X11_placed 2 (pc' := 33) (lo' := [some (vR 0 21 0), some (vI a1), some (vI a2), some (vI x1.1)]) (st' := [vI x1.1]) (M1 := x1.2) rfl ?_
    cases h
    exact Z_ret ⟨Or.inl rfl, _, rfl⟩ rfl
theorem l_11_92 : zhas 6165 (Jvm.Cond.methodLink "BellPullHouseModel" 92 yX11_placed) = true := by decide +kernel
theorem l_11_96 : zhas 6173 (Jvm.Cond.methodLink "BellPullHouseModel" 96 yX11_cut) = true := by decide +kernel
def f_X11_write (a1 : Int) (a2 : Int) (a3 : Int) (M : AM) : Option (Int × AM) := zlet (am_upd M 0 1 0) fun M1 => (f_X11_placed a1 a2 M1).bind fun x2 => zlet (am_upd x2.2 0 0 x2.1) fun M3 => if M3 0 0 ≤ 0 then (if 0 ≤ a1 ∧ a1 < 4 then ((f_X11_cut (M3 1 (Int.toNat a1)) a3 M3).bind fun x5 => if 0 ≤ o_add (o_mul 60 a1) a2 ∧ o_add (o_mul 60 a1) a2 < 240 then (zlet (am_upd x5.2 3 (Int.toNat (o_add (o_mul 60 a1) a2)) x5.1) fun M7 => some (1, M7)) else none) else none) else some (0, M3)
theorem e_X11_write {Y : List (Nat × Nat)} (d : Nat) (a1 : Int) (a2 : Int) (a3 : Int) (M : AM) (x : Int) (N : AM) (h : f_X11_write a1 a2 a3 M = some (x, N)) : Ev Y (d + 2) m_X11_write 0 [some (vR 0 21 0), some (vI a1), some (vI a2), some (vL a3), none] [] M (some (vI x)) N := by
  unfold f_X11_write at h
  obtain ⟨M1, eM1, h⟩ := of_zlet h
  refine Z_blk k_X11_write 3 (pc' := 5) (lo' := [some (vR 0 21 0), some (vI a1), some (vI a2), some (vL a3), none]) (st' := []) (M1 := M1) (by rw [eM1]; rfl) ?_
  refine Z_blk k_X11_write 4 (pc' := 9) (lo' := [some (vR 0 21 0), some (vI a1), some (vI a2), some (vL a3), none]) (st' := [vI a2, vI a1, vR 0 21 0, vR 0 21 0]) (M1 := M1) rfl ?_
  obtain ⟨x2, hx2, h⟩ := Option.bind_eq_some_iff.mp h
  refine Z_callV8 k_X11_write k_X11_placed rfl rfl (l_11_92) (ci := 11) rfl [vI a1, vI a2] [vR 0 21 0] rfl rfl (Nat.le_of_ble_eq_true rfl) (Nat.le_of_ble_eq_true rfl) (e_X11_placed (d + 0) a1 a2 M1 _ _ hx2) ?_
  obtain ⟨M3, eM3, h⟩ := of_zlet h
  refine Z_blk k_X11_write 1 (pc' := 15) (lo' := [some (vR 0 21 0), some (vI a1), some (vI a2), some (vL a3), none]) (st' := []) (M1 := M3) (by rw [eM3]; rfl) ?_
  refine Z_blk k_X11_write 2 (pc' := 19) (lo' := [some (vR 0 21 0), some (vI a1), some (vI a2), some (vL a3), none]) (st' := [vI (M3 0 0)]) (M1 := M3) rfl ?_
  refine Z_if k_X11_write rfl 24 rfl (fun hc => ?_) (fun hc => ?_)
  · replace h := of_pos hc h
    refine Z_blk k_X11_write 10 (pc' := 39) (lo' := [some (vR 0 21 0), some (vI a1), some (vI a2), some (vL a3), none]) (st' := [vI a1, vR 1 0 4, vI (o_add (o_mul 60 a1) a2), vR 3 1 240]) (M1 := M3) rfl ?_
    obtain ⟨hc4, h⟩ := of_grd h
    refine Z_one k_X11_write rfl (pc' := 40) (lo' := [some (vR 0 21 0), some (vI a1), some (vI a2), some (vL a3), none]) (st' := [vI (M3 1 (Int.toNat a1)), vI (o_add (o_mul 60 a1) a2), vR 3 1 240]) (M1 := M3) (if_pos hc4) ?_
    refine Z_blk k_X11_write 1 (pc' := 41) (lo' := [some (vR 0 21 0), some (vI a1), some (vI a2), some (vL a3), none]) (st' := [vL a3, vI (M3 1 (Int.toNat a1)), vI (o_add (o_mul 60 a1) a2), vR 3 1 240]) (M1 := M3) rfl ?_
    obtain ⟨x5, hx5, h⟩ := Option.bind_eq_some_iff.mp h
    refine Z_callS8 k_X11_write k_X11_cut rfl rfl (l_11_96) [vI (M3 1 (Int.toNat a1)), vL a3] [vI (o_add (o_mul 60 a1) a2), vR 3 1 240] rfl rfl (Nat.le_of_ble_eq_true rfl) (Nat.le_of_ble_eq_true rfl) (e_X11_cut (d + 1) (M3 1 (Int.toNat a1)) a3 M3 _ _ hx5) ?_
    obtain ⟨hc6, h⟩ := of_grd h
    obtain ⟨M7, eM7, h⟩ := of_zlet h
    refine Z_one k_X11_write rfl (pc' := 45) (lo' := [some (vR 0 21 0), some (vI a1), some (vI a2), some (vL a3), none]) (st' := []) (M1 := M7) (by rw [eM7]; exact if_pos hc6) ?_
    refine Z_blk k_X11_write 1 (pc' := 46) (lo' := [some (vR 0 21 0), some (vI a1), some (vI a2), some (vL a3), none]) (st' := [vI 1]) (M1 := M7) rfl ?_
    cases h
    exact Z_ret ⟨Or.inr ⟨rfl, Or.inr rfl⟩, _, rfl⟩ rfl
  · replace h := of_neg hc h
    refine Z_blk k_X11_write 1 (pc' := 23) (lo' := [some (vR 0 21 0), some (vI a1), some (vI a2), some (vL a3), none]) (st' := [vI 0]) (M1 := M3) rfl ?_
    cases h
    exact Z_ret ⟨Or.inr ⟨rfl, Or.inl rfl⟩, _, rfl⟩ rfl
def f_X11_read (a1 : Int) (a2 : Int) (M : AM) : Option (Int × AM) := zlet (am_upd M 0 1 0) fun M1 => (f_X11_placed a1 a2 M1).bind fun x2 => zlet (am_upd x2.2 0 0 x2.1) fun M3 => if M3 0 0 ≤ 0 then (if 0 ≤ o_add (o_mul 60 a1) a2 ∧ o_add (o_mul 60 a1) a2 < 240 then some (M3 3 (Int.toNat (o_add (o_mul 60 a1) a2)), M3) else none) else some ((-1), M3)
theorem e_X11_read {Y : List (Nat × Nat)} (d : Nat) (a1 : Int) (a2 : Int) (M : AM) (x : Int) (N : AM) (h : f_X11_read a1 a2 M = some (x, N)) : Ev Y (d + 2) m_X11_read 0 [some (vR 0 21 0), some (vI a1), some (vI a2)] [] M (some (vL x)) N := by
  unfold f_X11_read at h
  obtain ⟨M1, eM1, h⟩ := of_zlet h
  refine Z_blk k_X11_read 3 (pc' := 5) (lo' := [some (vR 0 21 0), some (vI a1), some (vI a2)]) (st' := []) (M1 := M1) (by rw [eM1]; rfl) ?_
  refine Z_blk k_X11_read 4 (pc' := 9) (lo' := [some (vR 0 21 0), some (vI a1), some (vI a2)]) (st' := [vI a2, vI a1, vR 0 21 0, vR 0 21 0]) (M1 := M1) rfl ?_
  obtain ⟨x2, hx2, h⟩ := Option.bind_eq_some_iff.mp h
  refine Z_callV8 k_X11_read k_X11_placed rfl rfl (l_11_92) (ci := 11) rfl [vI a1, vI a2] [vR 0 21 0] rfl rfl (Nat.le_of_ble_eq_true rfl) (Nat.le_of_ble_eq_true rfl) (e_X11_placed (d + 0) a1 a2 M1 _ _ hx2) ?_
  obtain ⟨M3, eM3, h⟩ := of_zlet h
  refine Z_blk k_X11_read 1 (pc' := 15) (lo' := [some (vR 0 21 0), some (vI a1), some (vI a2)]) (st' := []) (M1 := M3) (by rw [eM3]; rfl) ?_
  refine Z_blk k_X11_read 2 (pc' := 19) (lo' := [some (vR 0 21 0), some (vI a1), some (vI a2)]) (st' := [vI (M3 0 0)]) (M1 := M3) rfl ?_
  refine Z_if k_X11_read rfl 28 rfl (fun hc => ?_) (fun hc => ?_)
  · replace h := of_pos hc h
    refine Z_blk k_X11_read 7 (pc' := 38) (lo' := [some (vR 0 21 0), some (vI a1), some (vI a2)]) (st' := [vI (o_add (o_mul 60 a1) a2), vR 3 1 240]) (M1 := M3) rfl ?_
    obtain ⟨hc4, h⟩ := of_grd h
    refine Z_one k_X11_read rfl (pc' := 39) (lo' := [some (vR 0 21 0), some (vI a1), some (vI a2)]) (st' := [vL (M3 3 (Int.toNat (o_add (o_mul 60 a1) a2)))]) (M1 := M3) (if_pos hc4) ?_
    cases h
    exact Z_ret ⟨rfl, _, rfl⟩ rfl
  · replace h := of_neg hc h
    refine Z_blk k_X11_read 2 (pc' := 39) (lo' := [some (vR 0 21 0), some (vI a1), some (vI a2)]) (st' := [vL (-1)]) (M1 := M3) rfl ?_
    cases h
    exact Z_ret ⟨rfl, _, rfl⟩ rfl
def f_X11_pour_28 (M : AM) : Option (Int × AM) := (f_X11_no 1 M).bind fun x1 => if x1.1 = 0 ∨ x1.1 = 1 then some (x1.1, x1.2) else none
theorem e_X11_pour_28 {Y : List (Nat × Nat)} (d : Nat) (M : AM) (x : Int) (N : AM) (h : f_X11_pour_28 M = some (x, N)) : Ev Y (d + 1) m_X11_pour 28 [some (vR 0 21 0), none, none, none, none, none, none, none, none] [] M (some (vI x)) N := by
  unfold f_X11_pour_28 at h
  refine Z_blk k_X11_pour 2 (pc' := 30) (lo' := [some (vR 0 21 0), none, none, none, none, none, none, none, none]) (st' := [vI 1, vR 0 21 0]) (M1 := M) rfl ?_
  obtain ⟨x1, hx1, h⟩ := Option.bind_eq_some_iff.mp h
  refine Z_callV8 k_X11_pour k_X11_no rfl rfl (l_11_84) (ci := 11) rfl [vI 1] [] rfl rfl (Nat.le_of_ble_eq_true rfl) (Nat.le_of_ble_eq_true rfl) (e_X11_no (d + 0) 1 M _ _ hx1) ?_
  obtain ⟨hc2, h⟩ := of_grd h
  cases h
  exact Z_ret ⟨Or.inr ⟨rfl, hc2⟩, _, rfl⟩ rfl
def f_X11_pour_52 (M : AM) : Option (Int × AM) := (f_X11_no 3 M).bind fun x1 => if x1.1 = 0 ∨ x1.1 = 1 then some (x1.1, x1.2) else none
theorem e_X11_pour_52 {Y : List (Nat × Nat)} (d : Nat) (M : AM) (x : Int) (N : AM) (h : f_X11_pour_52 M = some (x, N)) : Ev Y (d + 1) m_X11_pour 52 [some (vR 0 21 0), none, none, none, none, none, none, none, none] [] M (some (vI x)) N := by
  unfold f_X11_pour_52 at h
  refine Z_blk k_X11_pour 2 (pc' := 54) (lo' := [some (vR 0 21 0), none, none, none, none, none, none, none, none]) (st' := [vI 3, vR 0 21 0]) (M1 := M) rfl ?_
  obtain ⟨x1, hx1, h⟩ := Option.bind_eq_some_iff.mp h
  refine Z_callV8 k_X11_pour k_X11_no rfl rfl (l_11_84) (ci := 11) rfl [vI 3] [] rfl rfl (Nat.le_of_ble_eq_true rfl) (Nat.le_of_ble_eq_true rfl) (e_X11_no (d + 0) 3 M _ _ hx1) ?_
  obtain ⟨hc2, h⟩ := of_grd h
  cases h
  exact Z_ret ⟨Or.inr ⟨rfl, hc2⟩, _, rfl⟩ rfl
def f_X11_pour_136 (M : AM) : Option (Int × AM) := (f_X11_no 4 M).bind fun x1 => if x1.1 = 0 ∨ x1.1 = 1 then some (x1.1, x1.2) else none
theorem e_X11_pour_136 {Y : List (Nat × Nat)} (d : Nat) (M : AM) (x : Int) (N : AM) (h : f_X11_pour_136 M = some (x, N)) : Ev Y (d + 1) m_X11_pour 136 [some (vR 0 21 0), none, none, none, none, none, none, none, none] [] M (some (vI x)) N := by
  unfold f_X11_pour_136 at h
  refine Z_blk k_X11_pour 2 (pc' := 138) (lo' := [some (vR 0 21 0), none, none, none, none, none, none, none, none]) (st' := [vI 4, vR 0 21 0]) (M1 := M) rfl ?_
  obtain ⟨x1, hx1, h⟩ := Option.bind_eq_some_iff.mp h
  refine Z_callV8 k_X11_pour k_X11_no rfl rfl (l_11_84) (ci := 11) rfl [vI 4] [] rfl rfl (Nat.le_of_ble_eq_true rfl) (Nat.le_of_ble_eq_true rfl) (e_X11_no (d + 0) 4 M _ _ hx1) ?_
  obtain ⟨hc2, h⟩ := of_grd h
  cases h
  exact Z_ret ⟨Or.inr ⟨rfl, hc2⟩, _, rfl⟩ rfl
def f_X11_pour_182 (k_158 : Int → Int → Int → Int → Int → Int → Int → AM → Option (Int × AM)) (a1 : Int) (a2 : Int) (a3 : Int) (a4 : Int) (a5 : Int) (a6 : Int) (a7 : Int) (s0 : Int) (M : AM) : Option (Int × AM) := if 0 ≤ o_add (o_add (o_mul 60 a1) a2) s0 ∧ o_add (o_add (o_mul 60 a1) a2) s0 < 240 then (if 0 ≤ o_add (o_add (o_mul 60 a3) a4) s0 ∧ o_add (o_add (o_mul 60 a3) a4) s0 < 240 then (zlet (am_upd M 3 (Int.toNat (o_add (o_add (o_mul 60 a3) a4) s0)) (M 3 (Int.toNat (o_add (o_add (o_mul 60 a1) a2) s0)))) fun M3 => k_158 a1 a2 a3 a4 a5 a6 (o_add a7 1) M3) else none) else none
theorem e_X11_pour_182 {Y : List (Nat × Nat)} (d : Nat) (k_158 : Int → Int → Int → Int → Int → Int → Int → AM → Option (Int × AM)) (hk_158 : ∀ (a1 : Int) (a2 : Int) (a3 : Int) (a4 : Int) (a5 : Int) (a6 : Int) (a7 : Int) (M : AM) (x : Int) (N : AM), k_158 a1 a2 a3 a4 a5 a6 a7 M = some (x, N) → Ev Y (d + 1) m_X11_pour 158 [some (vR 0 21 0), some (vI a1), some (vI a2), some (vI a3), some (vI a4), some (vI a5), some (vI a6), some (vI a7), none] [] M (some (vI x)) N) (a1 : Int) (a2 : Int) (a3 : Int) (a4 : Int) (a5 : Int) (a6 : Int) (a7 : Int) (s0 : Int) (M : AM) (x : Int) (N : AM) (h : f_X11_pour_182 k_158 a1 a2 a3 a4 a5 a6 a7 s0 M = some (x, N)) : Ev Y (d + 1) m_X11_pour 182 [some (vR 0 21 0), some (vI a1), some (vI a2), some (vI a3), some (vI a4), some (vI a5), some (vI a6), some (vI a7), none] [vI s0] M (some (vI x)) N := by
  unfold f_X11_pour_182 at h
  refine Z_blk k_X11_pour 19 (pc' := 211) (lo' := [some (vR 0 21 0), some (vI a1), some (vI a2), some (vI a3), some (vI a4), some (vI a5), some (vI a6), some (vI a7), some (vI s0)]) (st' := [vI (o_add (o_add (o_mul 60 a1) a2) s0), vR 3 1 240, vI (o_add (o_add (o_mul 60 a3) a4) s0), vR 3 1 240]) (M1 := M) rfl ?_
  obtain ⟨hc1, h⟩ := of_grd h
  refine Z_one k_X11_pour rfl (pc' := 212) (lo' := [some (vR 0 21 0), some (vI a1), some (vI a2), some (vI a3), some (vI a4), some (vI a5), some (vI a6), some (vI a7), some (vI s0)]) (st' := [vL (M 3 (Int.toNat (o_add (o_add (o_mul 60 a1) a2) s0))), vI (o_add (o_add (o_mul 60 a3) a4) s0), vR 3 1 240]) (M1 := M) (if_pos hc1) ?_
  obtain ⟨hc2, h⟩ := of_grd h
  obtain ⟨M3, eM3, h⟩ := of_zlet h
  refine Z_one k_X11_pour rfl (pc' := 213) (lo' := [some (vR 0 21 0), some (vI a1), some (vI a2), some (vI a3), some (vI a4), some (vI a5), some (vI a6), some (vI a7), some (vI s0)]) (st' := []) (M1 := M3) (by rw [eM3]; exact if_pos hc2) ?_
  refine Z_blk k_X11_pour 2 (pc' := 158) (lo' := [some (vR 0 21 0), some (vI a1), some (vI a2), some (vI a3), some (vI a4), some (vI a5), some (vI a6), some (vI (o_add a7 1)), some (vI s0)]) (st' := []) (M1 := M3) rfl ?_
  refine Z_mask [true, true, true, true, true, true, true, true, false] (lo0 := [some (vR 0 21 0), some (vI a1), some (vI a2), some (vI a3), some (vI a4), some (vI a5), some (vI a6), some (vI (o_add a7 1)), none]) rfl ?_
  exact hk_158 a1 a2 a3 a4 a5 a6 (o_add a7 1) M3 _ _ h
def f_X11_pour_158 : Nat → Int → Int → Int → Int → Int → Int → Int → AM → Option (Int × AM)
  | 0, _, _, _, _, _, _, _, _ => none
  | n + 1, a1, a2, a3, a4, a5, a6, a7, M => if a5 ≤ a7 then some (1, M) else (if a6 = 0 then f_X11_pour_182 (f_X11_pour_158 n) a1 a2 a3 a4 a5 a6 a7 a7 M else f_X11_pour_182 (f_X11_pour_158 n) a1 a2 a3 a4 a5 a6 a7 (o_sub (o_sub a5 1) a7) M)
theorem e_X11_pour_158 {Y : List (Nat × Nat)} (d : Nat) : ∀ (n : Nat) (a1 : Int) (a2 : Int) (a3 : Int) (a4 : Int) (a5 : Int) (a6 : Int) (a7 : Int) (M : AM) (x : Int) (N : AM), f_X11_pour_158 n a1 a2 a3 a4 a5 a6 a7 M = some (x, N) → Ev Y (d + 1) m_X11_pour 158 [some (vR 0 21 0), some (vI a1), some (vI a2), some (vI a3), some (vI a4), some (vI a5), some (vI a6), some (vI a7), none] [] M (some (vI x)) N := by
  intro n
  induction n with
  | zero => intro a1 a2 a3 a4 a5 a6 a7 M x N h; cases h
  | succ n ih =>
    intro a1 a2 a3 a4 a5 a6 a7 M x N h
    simp only [f_X11_pour_158] at h
    refine Z_blk k_X11_pour 2 (pc' := 162) (lo' := [some (vR 0 21 0), some (vI a1), some (vI a2), some (vI a3), some (vI a4), some (vI a5), some (vI a6), some (vI a7), none]) (st' := [vI a5, vI a7]) (M1 := M) rfl ?_
    refine Z_icmp k_X11_pour rfl 219 rfl (fun hc => ?_) (fun hc => ?_)
    · replace h := of_pos hc h
      refine Z_blk k_X11_pour 1 (pc' := 220) (lo' := [some (vR 0 21 0), some (vI a1), some (vI a2), some (vI a3), some (vI a4), some (vI a5), some (vI a6), some (vI a7), none]) (st' := [vI 1]) (M1 := M) rfl ?_
      cases h
      exact Z_ret ⟨Or.inr ⟨rfl, Or.inr rfl⟩, _, rfl⟩ rfl
    · replace h := of_neg hc h
      refine Z_blk k_X11_pour 1 (pc' := 167) (lo' := [some (vR 0 21 0), some (vI a1), some (vI a2), some (vI a3), some (vI a4), some (vI a5), some (vI a6), some (vI a7), none]) (st' := [vI a6]) (M1 := M) rfl ?_
      refine Z_if k_X11_pour rfl 180 rfl (fun hc => ?_) (fun hc => ?_)
      · replace h := of_pos hc h
        refine Z_blk k_X11_pour 1 (pc' := 182) (lo' := [some (vR 0 21 0), some (vI a1), some (vI a2), some (vI a3), some (vI a4), some (vI a5), some (vI a6), some (vI a7), none]) (st' := [vI a7]) (M1 := M) rfl ?_
        refine Z_mask [true, true, true, true, true, true, true, true, false] (lo0 := [some (vR 0 21 0), some (vI a1), some (vI a2), some (vI a3), some (vI a4), some (vI a5), some (vI a6), some (vI a7), none]) rfl ?_
        exact e_X11_pour_182 d (f_X11_pour_158 n) ih a1 a2 a3 a4 a5 a6 a7 a7 M _ _ h
      · replace h := of_neg hc h
        refine Z_blk k_X11_pour 6 (pc' := 182) (lo' := [some (vR 0 21 0), some (vI a1), some (vI a2), some (vI a3), some (vI a4), some (vI a5), some (vI a6), some (vI a7), none]) (st' := [vI (o_sub (o_sub a5 1) a7)]) (M1 := M) rfl ?_
        refine Z_mask [true, true, true, true, true, true, true, true, false] (lo0 := [some (vR 0 21 0), some (vI a1), some (vI a2), some (vI a3), some (vI a4), some (vI a5), some (vI a6), some (vI a7), none]) rfl ?_
        exact e_X11_pour_182 d (f_X11_pour_158 n) ih a1 a2 a3 a4 a5 a6 a7 (o_sub (o_sub a5 1) a7) M _ _ h
def f_X11_pour (a1 : Int) (a2 : Int) (a3 : Int) (a4 : Int) (a5 : Int) (M : AM) : Option (Int × AM) := zlet (am_upd M 0 1 0) fun M1 => zlet (am_upd M1 0 0 0) fun M2 => if a1 < 0 then f_X11_pour_28 M2 else (if 4 ≤ a1 then f_X11_pour_28 M2 else (if a3 < 0 then f_X11_pour_28 M2 else (if a3 < 4 then (if 0 ≤ a1 ∧ a1 < 4 then (if M2 2 (Int.toNat a1) < 0 then f_X11_pour_52 M2 else (if 0 ≤ a3 ∧ a3 < 4 then (if 0 ≤ M2 2 (Int.toNat a3) then (if M2 1 (Int.toNat a1) = M2 1 (Int.toNat a3) then (if 0 ≤ a5 then (if a2 < 0 then f_X11_pour_136 M2 else (if a4 < 0 then f_X11_pour_136 M2 else (if 0 < l_cmp (l_add a2 a5) (M2 2 (Int.toNat a1)) then f_X11_pour_136 M2 else (if l_cmp (l_add a4 a5) (M2 2 (Int.toNat a3)) ≤ 0 then (if a4 ≤ a2 then f_X11_pour_158 zB a1 a2 a3 a4 a5 0 0 M2 else f_X11_pour_158 zB a1 a2 a3 a4 a5 1 0 M2) else f_X11_pour_136 M2)))) else ((f_X11_no 6 M2).bind fun x5 => if x5.1 = 0 ∨ x5.1 = 1 then some (x5.1, x5.2) else none)) else ((f_X11_no 11 M2).bind fun x7 => if x7.1 = 0 ∨ x7.1 = 1 then some (x7.1, x7.2) else none)) else f_X11_pour_52 M2) else none)) else none) else f_X11_pour_28 M2)))
theorem e_X11_pour {Y : List (Nat × Nat)} (d : Nat) (a1 : Int) (a2 : Int) (a3 : Int) (a4 : Int) (a5 : Int) (M : AM) (x : Int) (N : AM) (h : f_X11_pour a1 a2 a3 a4 a5 M = some (x, N)) : Ev Y (d + 1) m_X11_pour 0 [some (vR 0 21 0), some (vI a1), some (vI a2), some (vI a3), some (vI a4), some (vI a5), none, none, none] [] M (some (vI x)) N := by
  unfold f_X11_pour at h
  obtain ⟨M1, eM1, h⟩ := of_zlet h
  refine Z_blk k_X11_pour 3 (pc' := 5) (lo' := [some (vR 0 21 0), some (vI a1), some (vI a2), some (vI a3), some (vI a4), some (vI a5), none, none, none]) (st' := []) (M1 := M1) (by rw [eM1]; rfl) ?_
  obtain ⟨M2, eM2, h⟩ := of_zlet h
  refine Z_blk k_X11_pour 3 (pc' := 10) (lo' := [some (vR 0 21 0), some (vI a1), some (vI a2), some (vI a3), some (vI a4), some (vI a5), none, none, none]) (st' := []) (M1 := M2) (by rw [eM2]; rfl) ?_
  refine Z_blk k_X11_pour 1 (pc' := 11) (lo' := [some (vR 0 21 0), some (vI a1), some (vI a2), some (vI a3), some (vI a4), some (vI a5), none, none, none]) (st' := [vI a1]) (M1 := M2) rfl ?_
  refine Z_if k_X11_pour rfl 28 rfl (fun hc => ?_) (fun hc => ?_)
  · replace h := of_pos hc h
    refine Z_mask [true, false, false, false, false, false, false, false, false] (lo0 := [some (vR 0 21 0), none, none, none, none, none, none, none, none]) rfl ?_
    exact e_X11_pour_28 d M2 _ _ h
  · replace h := of_neg hc h
    refine Z_blk k_X11_pour 2 (pc' := 16) (lo' := [some (vR 0 21 0), some (vI a1), some (vI a2), some (vI a3), some (vI a4), some (vI a5), none, none, none]) (st' := [vI 4, vI a1]) (M1 := M2) rfl ?_
    refine Z_icmp k_X11_pour rfl 28 rfl (fun hc => ?_) (fun hc => ?_)
    · replace h := of_pos hc h
      refine Z_mask [true, false, false, false, false, false, false, false, false] (lo0 := [some (vR 0 21 0), none, none, none, none, none, none, none, none]) rfl ?_
      exact e_X11_pour_28 d M2 _ _ h
    · replace h := of_neg hc h
      refine Z_blk k_X11_pour 1 (pc' := 20) (lo' := [some (vR 0 21 0), some (vI a1), some (vI a2), some (vI a3), some (vI a4), some (vI a5), none, none, none]) (st' := [vI a3]) (M1 := M2) rfl ?_
      refine Z_if k_X11_pour rfl 28 rfl (fun hc => ?_) (fun hc => ?_)
      · replace h := of_pos hc h
        refine Z_mask [true, false, false, false, false, false, false, false, false] (lo0 := [some (vR 0 21 0), none, none, none, none, none, none, none, none]) rfl ?_
        exact e_X11_pour_28 d M2 _ _ h
      · replace h := of_neg hc h
        refine Z_blk k_X11_pour 2 (pc' := 25) (lo' := [some (vR 0 21 0), some (vI a1), some (vI a2), some (vI a3), some (vI a4), some (vI a5), none, none, none]) (st' := [vI 4, vI a3]) (M1 := M2) rfl ?_
        refine Z_icmp k_X11_pour rfl 34 rfl (fun hc => ?_) (fun hc => ?_)
        · replace h := of_pos hc h
          refine Z_blk k_X11_pour 3 (pc' := 39) (lo' := [some (vR 0 21 0), some (vI a1), some (vI a2), some (vI a3), some (vI a4), some (vI a5), none, none, none]) (st' := [vI a1, vR 2 0 4]) (M1 := M2) rfl ?_
          obtain ⟨hc3, h⟩ := of_grd h
          refine Z_one k_X11_pour rfl (pc' := 40) (lo' := [some (vR 0 21 0), some (vI a1), some (vI a2), some (vI a3), some (vI a4), some (vI a5), none, none, none]) (st' := [vI (M2 2 (Int.toNat a1))]) (M1 := M2) (if_pos hc3) ?_
          refine Z_if k_X11_pour rfl 52 rfl (fun hc => ?_) (fun hc => ?_)
          · replace h := of_pos hc h
            refine Z_mask [true, false, false, false, false, false, false, false, false] (lo0 := [some (vR 0 21 0), none, none, none, none, none, none, none, none]) rfl ?_
            exact e_X11_pour_52 d M2 _ _ h
          · replace h := of_neg hc h
            refine Z_blk k_X11_pour 3 (pc' := 48) (lo' := [some (vR 0 21 0), some (vI a1), some (vI a2), some (vI a3), some (vI a4), some (vI a5), none, none, none]) (st' := [vI a3, vR 2 0 4]) (M1 := M2) rfl ?_
            obtain ⟨hc4, h⟩ := of_grd h
            refine Z_one k_X11_pour rfl (pc' := 49) (lo' := [some (vR 0 21 0), some (vI a1), some (vI a2), some (vI a3), some (vI a4), some (vI a5), none, none, none]) (st' := [vI (M2 2 (Int.toNat a3))]) (M1 := M2) (if_pos hc4) ?_
            refine Z_if k_X11_pour rfl 58 rfl (fun hc => ?_) (fun hc => ?_)
            · replace h := of_pos hc h
              refine Z_blk k_X11_pour 3 (pc' := 63) (lo' := [some (vR 0 21 0), some (vI a1), some (vI a2), some (vI a3), some (vI a4), some (vI a5), none, none, none]) (st' := [vI a1, vR 1 0 4]) (M1 := M2) rfl ?_
              refine Z_one k_X11_pour rfl (pc' := 64) (lo' := [some (vR 0 21 0), some (vI a1), some (vI a2), some (vI a3), some (vI a4), some (vI a5), none, none, none]) (st' := [vI (M2 1 (Int.toNat a1))]) (M1 := M2) (if_pos hc3) ?_
              refine Z_blk k_X11_pour 3 (pc' := 69) (lo' := [some (vR 0 21 0), some (vI a1), some (vI a2), some (vI a3), some (vI a4), some (vI a5), none, none, none]) (st' := [vI a3, vR 1 0 4, vI (M2 1 (Int.toNat a1))]) (M1 := M2) rfl ?_
              refine Z_one k_X11_pour rfl (pc' := 70) (lo' := [some (vR 0 21 0), some (vI a1), some (vI a2), some (vI a3), some (vI a4), some (vI a5), none, none, none]) (st' := [vI (M2 1 (Int.toNat a3)), vI (M2 1 (Int.toNat a1))]) (M1 := M2) (if_pos hc4) ?_
              refine Z_icmp k_X11_pour rfl 80 rfl (fun hc => ?_) (fun hc => ?_)
              · replace h := of_pos hc h
                refine Z_blk k_X11_pour 1 (pc' := 82) (lo' := [some (vR 0 21 0), some (vI a1), some (vI a2), some (vI a3), some (vI a4), some (vI a5), none, none, none]) (st' := [vI a5]) (M1 := M2) rfl ?_
                refine Z_if k_X11_pour rfl 92 rfl (fun hc => ?_) (fun hc => ?_)
                · replace h := of_pos hc h
                  refine Z_blk k_X11_pour 1 (pc' := 93) (lo' := [some (vR 0 21 0), some (vI a1), some (vI a2), some (vI a3), some (vI a4), some (vI a5), none, none, none]) (st' := [vI a2]) (M1 := M2) rfl ?_
                  refine Z_if k_X11_pour rfl 136 rfl (fun hc => ?_) (fun hc => ?_)
                  · replace h := of_pos hc h
                    refine Z_mask [true, false, false, false, false, false, false, false, false] (lo0 := [some (vR 0 21 0), none, none, none, none, none, none, none, none]) rfl ?_
                    exact e_X11_pour_136 d M2 _ _ h
                  · replace h := of_neg hc h
                    refine Z_blk k_X11_pour 1 (pc' := 98) (lo' := [some (vR 0 21 0), some (vI a1), some (vI a2), some (vI a3), some (vI a4), some (vI a5), none, none, none]) (st' := [vI a4]) (M1 := M2) rfl ?_
                    refine Z_if k_X11_pour rfl 136 rfl (fun hc => ?_) (fun hc => ?_)
                    · replace h := of_pos hc h
                      refine Z_mask [true, false, false, false, false, false, false, false, false] (lo0 := [some (vR 0 21 0), none, none, none, none, none, none, none, none]) rfl ?_
                      exact e_X11_pour_136 d M2 _ _ h
                    · replace h := of_neg hc h
                      refine Z_blk k_X11_pour 8 (pc' := 112) (lo' := [some (vR 0 21 0), some (vI a1), some (vI a2), some (vI a3), some (vI a4), some (vI a5), none, none, none]) (st' := [vI a1, vR 2 0 4, vL (l_add a2 a5)]) (M1 := M2) rfl ?_
                      refine Z_one k_X11_pour rfl (pc' := 113) (lo' := [some (vR 0 21 0), some (vI a1), some (vI a2), some (vI a3), some (vI a4), some (vI a5), none, none, none]) (st' := [vI (M2 2 (Int.toNat a1)), vL (l_add a2 a5)]) (M1 := M2) (if_pos hc3) ?_
                      refine Z_blk k_X11_pour 2 (pc' := 115) (lo' := [some (vR 0 21 0), some (vI a1), some (vI a2), some (vI a3), some (vI a4), some (vI a5), none, none, none]) (st' := [vI (l_cmp (l_add a2 a5) (M2 2 (Int.toNat a1)))]) (M1 := M2) rfl ?_
                      refine Z_if k_X11_pour rfl 136 rfl (fun hc => ?_) (fun hc => ?_)
                      · replace h := of_pos hc h
                        refine Z_mask [true, false, false, false, false, false, false, false, false] (lo0 := [some (vR 0 21 0), none, none, none, none, none, none, none, none]) rfl ?_
                        exact e_X11_pour_136 d M2 _ _ h
                      · replace h := of_neg hc h
                        refine Z_blk k_X11_pour 8 (pc' := 130) (lo' := [some (vR 0 21 0), some (vI a1), some (vI a2), some (vI a3), some (vI a4), some (vI a5), none, none, none]) (st' := [vI a3, vR 2 0 4, vL (l_add a4 a5)]) (M1 := M2) rfl ?_
                        refine Z_one k_X11_pour rfl (pc' := 131) (lo' := [some (vR 0 21 0), some (vI a1), some (vI a2), some (vI a3), some (vI a4), some (vI a5), none, none, none]) (st' := [vI (M2 2 (Int.toNat a3)), vL (l_add a4 a5)]) (M1 := M2) (if_pos hc4) ?_
                        refine Z_blk k_X11_pour 2 (pc' := 133) (lo' := [some (vR 0 21 0), some (vI a1), some (vI a2), some (vI a3), some (vI a4), some (vI a5), none, none, none]) (st' := [vI (l_cmp (l_add a4 a5) (M2 2 (Int.toNat a3)))]) (M1 := M2) rfl ?_
                        refine Z_if k_X11_pour rfl 142 rfl (fun hc => ?_) (fun hc => ?_)
                        · replace h := of_pos hc h
                          refine Z_blk k_X11_pour 2 (pc' := 145) (lo' := [some (vR 0 21 0), some (vI a1), some (vI a2), some (vI a3), some (vI a4), some (vI a5), none, none, none]) (st' := [vI a4, vI a2]) (M1 := M2) rfl ?_
                          refine Z_icmp k_X11_pour rfl 152 rfl (fun hc => ?_) (fun hc => ?_)
                          · replace h := of_pos hc h
                            refine Z_blk k_X11_pour 4 (pc' := 158) (lo' := [some (vR 0 21 0), some (vI a1), some (vI a2), some (vI a3), some (vI a4), some (vI a5), some (vI 0), some (vI 0), none]) (st' := []) (M1 := M2) rfl ?_
                            refine Z_mask [true, true, true, true, true, true, true, true, false] (lo0 := [some (vR 0 21 0), some (vI a1), some (vI a2), some (vI a3), some (vI a4), some (vI a5), some (vI 0), some (vI 0), none]) rfl ?_
                            exact e_X11_pour_158 d zB a1 a2 a3 a4 a5 0 0 M2 _ _ h
                          · replace h := of_neg hc h
                            refine Z_blk k_X11_pour 5 (pc' := 158) (lo' := [some (vR 0 21 0), some (vI a1), some (vI a2), some (vI a3), some (vI a4), some (vI a5), some (vI 1), some (vI 0), none]) (st' := []) (M1 := M2) rfl ?_
                            refine Z_mask [true, true, true, true, true, true, true, true, false] (lo0 := [some (vR 0 21 0), some (vI a1), some (vI a2), some (vI a3), some (vI a4), some (vI a5), some (vI 1), some (vI 0), none]) rfl ?_
                            exact e_X11_pour_158 d zB a1 a2 a3 a4 a5 1 0 M2 _ _ h
                        · replace h := of_neg hc h
                          refine Z_mask [true, false, false, false, false, false, false, false, false] (lo0 := [some (vR 0 21 0), none, none, none, none, none, none, none, none]) rfl ?_
                          exact e_X11_pour_136 d M2 _ _ h
                · replace h := of_neg hc h
                  refine Z_blk k_X11_pour 2 (pc' := 88) (lo' := [some (vR 0 21 0), some (vI a1), some (vI a2), some (vI a3), some (vI a4), some (vI a5), none, none, none]) (st' := [vI 6, vR 0 21 0]) (M1 := M2) rfl ?_
                  obtain ⟨x5, hx5, h⟩ := Option.bind_eq_some_iff.mp h
                  refine Z_callV8 k_X11_pour k_X11_no rfl rfl (l_11_84) (ci := 11) rfl [vI 6] [] rfl rfl (Nat.le_of_ble_eq_true rfl) (Nat.le_of_ble_eq_true rfl) (e_X11_no (d + 0) 6 M2 _ _ hx5) ?_
                  obtain ⟨hc6, h⟩ := of_grd h
                  cases h
                  exact Z_ret ⟨Or.inr ⟨rfl, hc6⟩, _, rfl⟩ rfl
              · replace h := of_neg hc h
                refine Z_blk k_X11_pour 2 (pc' := 76) (lo' := [some (vR 0 21 0), some (vI a1), some (vI a2), some (vI a3), some (vI a4), some (vI a5), none, none, none]) (st' := [vI 11, vR 0 21 0]) (M1 := M2) rfl ?_
                obtain ⟨x7, hx7, h⟩ := Option.bind_eq_some_iff.mp h
                refine Z_callV8 k_X11_pour k_X11_no rfl rfl (l_11_84) (ci := 11) rfl [vI 11] [] rfl rfl (Nat.le_of_ble_eq_true rfl) (Nat.le_of_ble_eq_true rfl) (e_X11_no (d + 0) 11 M2 _ _ hx7) ?_
                obtain ⟨hc8, h⟩ := of_grd h
                cases h
                exact Z_ret ⟨Or.inr ⟨rfl, hc8⟩, _, rfl⟩ rfl
            · replace h := of_neg hc h
              refine Z_mask [true, false, false, false, false, false, false, false, false] (lo0 := [some (vR 0 21 0), none, none, none, none, none, none, none, none]) rfl ?_
              exact e_X11_pour_52 d M2 _ _ h
        · replace h := of_neg hc h
          refine Z_mask [true, false, false, false, false, false, false, false, false] (lo0 := [some (vR 0 21 0), none, none, none, none, none, none, none, none]) rfl ?_
          exact e_X11_pour_28 d M2 _ _ h
theorem l_11_104 : zhas 7019 (Jvm.Cond.methodLink "BellPullHouseModel" 104 yX11_isIn) = true := by decide +kernel
def f_X11_isTray (a1 : Int) (M : AM) : Option (Int × AM) := (f_X11_isIn a1 0 3 M).bind fun x1 => if x1.1 = 0 ∨ x1.1 = 1 then some (x1.1, x1.2) else none
theorem e_X11_isTray {Y : List (Nat × Nat)} (d : Nat) (a1 : Int) (M : AM) (x : Int) (N : AM) (h : f_X11_isTray a1 M = some (x, N)) : Ev Y (d + 1) m_X11_isTray 0 [some (vR 0 21 0), some (vI a1)] [] M (some (vI x)) N := by
  unfold f_X11_isTray at h
  refine Z_blk k_X11_isTray 4 (pc' := 6) (lo' := [some (vR 0 21 0), some (vI a1)]) (st' := [vL 3, vL 0, vL a1]) (M1 := M) rfl ?_
  obtain ⟨x1, hx1, h⟩ := Option.bind_eq_some_iff.mp h
  refine Z_callS8 k_X11_isTray k_X11_isIn rfl rfl (l_11_104) [vL a1, vL 0, vL 3] [] rfl rfl (Nat.le_of_ble_eq_true rfl) (Nat.le_of_ble_eq_true rfl) (e_X11_isIn (d + 0) a1 0 3 M _ _ hx1) ?_
  obtain ⟨hc2, h⟩ := of_grd h
  cases h
  exact Z_ret ⟨Or.inr ⟨rfl, hc2⟩, _, rfl⟩ rfl
def f_X11_has (a0 : Int) (a1 : Int) (M : AM) : Option (Int × AM) := if ¬ o_and (o_shr a0 a1) 1 = 1 then some (0, M) else some (1, M)
theorem e_X11_has {Y : List (Nat × Nat)} (d : Nat) (a0 : Int) (a1 : Int) (M : AM) (x : Int) (N : AM) (h : f_X11_has a0 a1 M = some (x, N)) : Ev Y (d + 0) m_X11_has 0 [some (vI a0), some (vI a1)] [] M (some (vI x)) N := by
  unfold f_X11_has at h
  refine Z_blk k_X11_has 6 (pc' := 6) (lo' := [some (vI a0), some (vI a1)]) (st' := [vI 1, vI (o_and (o_shr a0 a1) 1)]) (M1 := M) rfl ?_
  refine Z_icmp k_X11_has rfl 13 rfl (fun hc => ?_) (fun hc => ?_)
  · replace h := of_pos hc h
    refine Z_blk k_X11_has 1 (pc' := 14) (lo' := [some (vI a0), some (vI a1)]) (st' := [vI 0]) (M1 := M) rfl ?_
    cases h
    exact Z_ret ⟨Or.inr ⟨rfl, Or.inl rfl⟩, _, rfl⟩ rfl
  · replace h := of_neg hc h
    refine Z_blk k_X11_has 2 (pc' := 14) (lo' := [some (vI a0), some (vI a1)]) (st' := [vI 1]) (M1 := M) rfl ?_
    cases h
    exact Z_ret ⟨Or.inr ⟨rfl, Or.inr rfl⟩, _, rfl⟩ rfl
theorem l_11_108 : zhas 7004 (Jvm.Cond.methodLink "BellPullHouseModel" 108 yX11_has) = true := by decide +kernel
def f_X11_sizeOf_4 : Nat → Int → Int → Int → AM → Option (Int × AM)
  | 0, _, _, _, _ => none
  | n + 1, a0, a1, a2, M => if 10 ≤ a2 then some (a1, M) else ((f_X11_has a0 a2 M).bind fun x1 => if x1.1 = 0 then f_X11_sizeOf_4 n a0 (o_add a1 0) (o_add a2 1) x1.2 else f_X11_sizeOf_4 n a0 (o_add a1 1) (o_add a2 1) x1.2)
theorem e_X11_sizeOf_4 {Y : List (Nat × Nat)} (d : Nat) : ∀ (n : Nat) (a0 : Int) (a1 : Int) (a2 : Int) (M : AM) (x : Int) (N : AM), f_X11_sizeOf_4 n a0 a1 a2 M = some (x, N) → Ev Y (d + 1) m_X11_sizeOf 4 [some (vI a0), some (vI a1), some (vI a2)] [] M (some (vI x)) N := by
  intro n
  induction n with
  | zero => intro a0 a1 a2 M x N h; cases h
  | succ n ih =>
    intro a0 a1 a2 M x N h
    simp only [f_X11_sizeOf_4] at h
    refine Z_blk k_X11_sizeOf 2 (pc' := 7) (lo' := [some (vI a0), some (vI a1), some (vI a2)]) (st' := [vI 10, vI a2]) (M1 := M) rfl ?_
    refine Z_icmp k_X11_sizeOf rfl 32 rfl (fun hc => ?_) (fun hc => ?_)
    · replace h := of_pos hc h
      refine Z_blk k_X11_sizeOf 1 (pc' := 33) (lo' := [some (vI a0), some (vI a1), some (vI a2)]) (st' := [vI a1]) (M1 := M) rfl ?_
      cases h
      exact Z_ret ⟨Or.inl rfl, _, rfl⟩ rfl
    · replace h := of_neg hc h
      refine Z_blk k_X11_sizeOf 3 (pc' := 13) (lo' := [some (vI a0), some (vI a1), some (vI a2)]) (st' := [vI a2, vI a0, vI a1]) (M1 := M) rfl ?_
      obtain ⟨x1, hx1, h⟩ := Option.bind_eq_some_iff.mp h
      refine Z_callS8 k_X11_sizeOf k_X11_has rfl rfl (l_11_108) [vI a0, vI a2] [vI a1] rfl rfl (Nat.le_of_ble_eq_true rfl) (Nat.le_of_ble_eq_true rfl) (e_X11_has (d + 0) a0 a2 M _ _ hx1) ?_
      refine Z_if k_X11_sizeOf rfl 23 rfl (fun hc => ?_) (fun hc => ?_)
      · replace h := of_pos hc h
        refine Z_blk k_X11_sizeOf 5 (pc' := 4) (lo' := [some (vI a0), some (vI (o_add a1 0)), some (vI (o_add a2 1))]) (st' := []) (M1 := x1.2) rfl ?_
        refine Z_mask [true, true, true] (lo0 := [some (vI a0), some (vI (o_add a1 0)), some (vI (o_add a2 1))]) rfl ?_
        exact ih a0 (o_add a1 0) (o_add a2 1) x1.2 _ _ h
      · replace h := of_neg hc h
        refine Z_blk k_X11_sizeOf 6 (pc' := 4) (lo' := [some (vI a0), some (vI (o_add a1 1)), some (vI (o_add a2 1))]) (st' := []) (M1 := x1.2) rfl ?_
        refine Z_mask [true, true, true] (lo0 := [some (vI a0), some (vI (o_add a1 1)), some (vI (o_add a2 1))]) rfl ?_
        exact ih a0 (o_add a1 1) (o_add a2 1) x1.2 _ _ h
def f_X11_sizeOf (a0 : Int) (M : AM) : Option (Int × AM) := f_X11_sizeOf_4 zB a0 0 0 M
theorem e_X11_sizeOf {Y : List (Nat × Nat)} (d : Nat) (a0 : Int) (M : AM) (x : Int) (N : AM) (h : f_X11_sizeOf a0 M = some (x, N)) : Ev Y (d + 1) m_X11_sizeOf 0 [some (vI a0), none, none] [] M (some (vI x)) N := by
  unfold f_X11_sizeOf at h
  refine Z_blk k_X11_sizeOf 4 (pc' := 4) (lo' := [some (vI a0), some (vI 0), some (vI 0)]) (st' := []) (M1 := M) rfl ?_
  refine Z_mask [true, true, true] (lo0 := [some (vI a0), some (vI 0), some (vI 0)]) rfl ?_
  exact e_X11_sizeOf_4 d zB a0 0 0 M _ _ h
def f_X11_look2 (a1 : Int) (M : AM) : Option (Int × AM) := if M 0 9 ≤ a1 then some (0, M) else (if 0 ≤ a1 ∧ a1 < 900 then some (o_and (M 4 (Int.toNat a1)) 255, M) else none)
theorem e_X11_look2 {Y : List (Nat × Nat)} (d : Nat) (a1 : Int) (M : AM) (x : Int) (N : AM) (h : f_X11_look2 a1 M = some (x, N)) : Ev Y (d + 0) m_X11_look2 0 [some (vR 0 21 0), some (vI a1)] [] M (some (vI x)) N := by
  unfold f_X11_look2 at h
  refine Z_blk k_X11_look2 3 (pc' := 5) (lo' := [some (vR 0 21 0), some (vI a1)]) (st' := [vI (M 0 9), vI a1]) (M1 := M) rfl ?_
  refine Z_icmp k_X11_look2 rfl 21 rfl (fun hc => ?_) (fun hc => ?_)
  · replace h := of_pos hc h
    refine Z_blk k_X11_look2 1 (pc' := 22) (lo' := [some (vR 0 21 0), some (vI a1)]) (st' := [vI 0]) (M1 := M) rfl ?_
    cases h
    exact Z_ret ⟨Or.inl rfl, _, rfl⟩ rfl
  · replace h := of_neg hc h
    refine Z_blk k_X11_look2 3 (pc' := 13) (lo' := [some (vR 0 21 0), some (vI a1)]) (st' := [vI a1, vR 4 2 900]) (M1 := M) rfl ?_
    obtain ⟨hc1, h⟩ := of_grd h
    refine Z_one k_X11_look2 rfl (pc' := 14) (lo' := [some (vR 0 21 0), some (vI a1)]) (st' := [vI (M 4 (Int.toNat a1))]) (M1 := M) (if_pos hc1) ?_
    refine Z_blk k_X11_look2 3 (pc' := 22) (lo' := [some (vR 0 21 0), some (vI a1)]) (st' := [vI (o_and (M 4 (Int.toNat a1)) 255)]) (M1 := M) rfl ?_
    cases h
    exact Z_ret ⟨Or.inl rfl, _, rfl⟩ rfl
def f_X11_isLetter (a0 : Int) (M : AM) : Option (Int × AM) := if a0 < 97 then some (0, M) else (if 122 < a0 then some (0, M) else some (1, M))
theorem e_X11_isLetter {Y : List (Nat × Nat)} (d : Nat) (a0 : Int) (M : AM) (x : Int) (N : AM) (h : f_X11_isLetter a0 M = some (x, N)) : Ev Y (d + 0) m_X11_isLetter 0 [some (vI a0)] [] M (some (vI x)) N := by
  unfold f_X11_isLetter at h
  refine Z_blk k_X11_isLetter 2 (pc' := 3) (lo' := [some (vI a0)]) (st' := [vI 97, vI a0]) (M1 := M) rfl ?_
  refine Z_icmp k_X11_isLetter rfl 16 rfl (fun hc => ?_) (fun hc => ?_)
  · replace h := of_pos hc h
    refine Z_blk k_X11_isLetter 1 (pc' := 17) (lo' := [some (vI a0)]) (st' := [vI 0]) (M1 := M) rfl ?_
    cases h
    exact Z_ret ⟨Or.inr ⟨rfl, Or.inl rfl⟩, _, rfl⟩ rfl
  · replace h := of_neg hc h
    refine Z_blk k_X11_isLetter 2 (pc' := 9) (lo' := [some (vI a0)]) (st' := [vI 122, vI a0]) (M1 := M) rfl ?_
    refine Z_icmp k_X11_isLetter rfl 16 rfl (fun hc => ?_) (fun hc => ?_)
    · replace h := of_pos hc h
      refine Z_blk k_X11_isLetter 1 (pc' := 17) (lo' := [some (vI a0)]) (st' := [vI 0]) (M1 := M) rfl ?_
      cases h
      exact Z_ret ⟨Or.inr ⟨rfl, Or.inl rfl⟩, _, rfl⟩ rfl
    · replace h := of_neg hc h
      refine Z_blk k_X11_isLetter 2 (pc' := 17) (lo' := [some (vI a0)]) (st' := [vI 1]) (M1 := M) rfl ?_
      cases h
      exact Z_ret ⟨Or.inr ⟨rfl, Or.inr rfl⟩, _, rfl⟩ rfl
def f_X11_isDigit (a0 : Int) (M : AM) : Option (Int × AM) := if a0 < 48 then some (0, M) else (if 57 < a0 then some (0, M) else some (1, M))
theorem e_X11_isDigit {Y : List (Nat × Nat)} (d : Nat) (a0 : Int) (M : AM) (x : Int) (N : AM) (h : f_X11_isDigit a0 M = some (x, N)) : Ev Y (d + 0) m_X11_isDigit 0 [some (vI a0)] [] M (some (vI x)) N := by
  unfold f_X11_isDigit at h
  refine Z_blk k_X11_isDigit 2 (pc' := 3) (lo' := [some (vI a0)]) (st' := [vI 48, vI a0]) (M1 := M) rfl ?_
  refine Z_icmp k_X11_isDigit rfl 16 rfl (fun hc => ?_) (fun hc => ?_)
  · replace h := of_pos hc h
    refine Z_blk k_X11_isDigit 1 (pc' := 17) (lo' := [some (vI a0)]) (st' := [vI 0]) (M1 := M) rfl ?_
    cases h
    exact Z_ret ⟨Or.inr ⟨rfl, Or.inl rfl⟩, _, rfl⟩ rfl
  · replace h := of_neg hc h
    refine Z_blk k_X11_isDigit 2 (pc' := 9) (lo' := [some (vI a0)]) (st' := [vI 57, vI a0]) (M1 := M) rfl ?_
    refine Z_icmp k_X11_isDigit rfl 16 rfl (fun hc => ?_) (fun hc => ?_)
    · replace h := of_pos hc h
      refine Z_blk k_X11_isDigit 1 (pc' := 17) (lo' := [some (vI a0)]) (st' := [vI 0]) (M1 := M) rfl ?_
      cases h
      exact Z_ret ⟨Or.inr ⟨rfl, Or.inl rfl⟩, _, rfl⟩ rfl
    · replace h := of_neg hc h
      refine Z_blk k_X11_isDigit 2 (pc' := 17) (lo' := [some (vI a0)]) (st' := [vI 1]) (M1 := M) rfl ?_
      cases h
      exact Z_ret ⟨Or.inr ⟨rfl, Or.inr rfl⟩, _, rfl⟩ rfl
def f_X11_isSignByte (a1 : Int) (M : AM) : Option (Int × AM) := if a1 = 59 then some (1, M) else (if a1 = 60 then some (1, M) else (if a1 = 62 then some (1, M) else (if ¬ a1 = 61 then some (0, M) else some (1, M))))
theorem e_X11_isSignByte {Y : List (Nat × Nat)} (d : Nat) (a1 : Int) (M : AM) (x : Int) (N : AM) (h : f_X11_isSignByte a1 M = some (x, N)) : Ev Y (d + 0) m_X11_isSignByte 0 [some (vR 0 21 0), some (vI a1)] [] M (some (vI x)) N := by
  unfold f_X11_isSignByte at h
  refine Z_blk k_X11_isSignByte 2 (pc' := 3) (lo' := [some (vR 0 21 0), some (vI a1)]) (st' := [vI 59, vI a1]) (M1 := M) rfl ?_
  refine Z_icmp k_X11_isSignByte rfl 24 rfl (fun hc => ?_) (fun hc => ?_)
  · replace h := of_pos hc h
    refine Z_blk k_X11_isSignByte 2 (pc' := 29) (lo' := [some (vR 0 21 0), some (vI a1)]) (st' := [vI 1]) (M1 := M) rfl ?_
    cases h
    exact Z_ret ⟨Or.inr ⟨rfl, Or.inr rfl⟩, _, rfl⟩ rfl
  · replace h := of_neg hc h
    refine Z_blk k_X11_isSignByte 2 (pc' := 9) (lo' := [some (vR 0 21 0), some (vI a1)]) (st' := [vI 60, vI a1]) (M1 := M) rfl ?_
    refine Z_icmp k_X11_isSignByte rfl 24 rfl (fun hc => ?_) (fun hc => ?_)
    · replace h := of_pos hc h
      refine Z_blk k_X11_isSignByte 2 (pc' := 29) (lo' := [some (vR 0 21 0), some (vI a1)]) (st' := [vI 1]) (M1 := M) rfl ?_
      cases h
      exact Z_ret ⟨Or.inr ⟨rfl, Or.inr rfl⟩, _, rfl⟩ rfl
    · replace h := of_neg hc h
      refine Z_blk k_X11_isSignByte 2 (pc' := 15) (lo' := [some (vR 0 21 0), some (vI a1)]) (st' := [vI 62, vI a1]) (M1 := M) rfl ?_
      refine Z_icmp k_X11_isSignByte rfl 24 rfl (fun hc => ?_) (fun hc => ?_)
      · replace h := of_pos hc h
        refine Z_blk k_X11_isSignByte 2 (pc' := 29) (lo' := [some (vR 0 21 0), some (vI a1)]) (st' := [vI 1]) (M1 := M) rfl ?_
        cases h
        exact Z_ret ⟨Or.inr ⟨rfl, Or.inr rfl⟩, _, rfl⟩ rfl
      · replace h := of_neg hc h
        refine Z_blk k_X11_isSignByte 2 (pc' := 21) (lo' := [some (vR 0 21 0), some (vI a1)]) (st' := [vI 61, vI a1]) (M1 := M) rfl ?_
        refine Z_icmp k_X11_isSignByte rfl 28 rfl (fun hc => ?_) (fun hc => ?_)
        · replace h := of_pos hc h
          refine Z_blk k_X11_isSignByte 1 (pc' := 29) (lo' := [some (vR 0 21 0), some (vI a1)]) (st' := [vI 0]) (M1 := M) rfl ?_
          cases h
          exact Z_ret ⟨Or.inr ⟨rfl, Or.inl rfl⟩, _, rfl⟩ rfl
        · replace h := of_neg hc h
          refine Z_blk k_X11_isSignByte 2 (pc' := 29) (lo' := [some (vR 0 21 0), some (vI a1)]) (st' := [vI 1]) (M1 := M) rfl ?_
          cases h
          exact Z_ret ⟨Or.inr ⟨rfl, Or.inr rfl⟩, _, rfl⟩ rfl
theorem l_11_121 : zhas 6209 (Jvm.Cond.methodLink "BellPullHouseModel" 121 yX11_look2) = true := by decide +kernel
theorem l_11_127 : zhas 6213 (Jvm.Cond.methodLink "BellPullHouseModel" 127 yX11_isLetter) = true := by decide +kernel
theorem l_11_140 : zhas 6218 (Jvm.Cond.methodLink "BellPullHouseModel" 140 yX11_isDigit) = true := by decide +kernel
theorem l_11_146 : zhas 6221 (Jvm.Cond.methodLink "BellPullHouseModel" 146 yX11_isSignByte) = true := by decide +kernel
def f_X11_advance_109 : Nat → AM → Option (AM)
  | 0, _ => none
  | n + 1, M => (f_X11_look2 (M 0 16) M).bind fun x1 => (f_X11_isLetter x1.1 x1.2).bind fun x2 => if x2.1 = 0 then (zlet (am_upd x2.2 0 18 (o_sub (x2.2 0 16) (x2.2 0 15))) fun M3 => some M3) else (if 8 ≤ o_sub (x2.2 0 16) (x2.2 0 15) then (zlet (am_upd x2.2 0 19 (-1)) fun M4 => zlet (am_upd M4 0 16 (o_add (M4 0 16) 1)) fun M5 => f_X11_advance_109 n M5) else ((f_X11_look2 (x2.2 0 16) x2.2).bind fun x6 => zlet (am_upd x6.2 0 19 (l_sub (l_add (l_mul (x2.2 0 19) 32) x6.1) 96)) fun M7 => zlet (am_upd M7 0 16 (o_add (M7 0 16) 1)) fun M8 => f_X11_advance_109 n M8))
theorem e_X11_advance_109 {Y : List (Nat × Nat)} (d : Nat) : ∀ (n : Nat) (M : AM) (N : AM), f_X11_advance_109 n M = some N → Ev Y (d + 1) m_X11_advance 109 [some (vR 0 21 0), none] [] M none N := by
  intro n
  induction n with
  | zero => intro M N h; cases h
  | succ n ih =>
    intro M N h
    simp only [f_X11_advance_109] at h
    refine Z_blk k_X11_advance 3 (pc' := 114) (lo' := [some (vR 0 21 0), none]) (st' := [vI (M 0 16), vR 0 21 0]) (M1 := M) rfl ?_
    obtain ⟨x1, hx1, h⟩ := Option.bind_eq_some_iff.mp h
    refine Z_callV8 k_X11_advance k_X11_look2 rfl rfl (l_11_121) (ci := 11) rfl [vI (M 0 16)] [] rfl rfl (Nat.le_of_ble_eq_true rfl) (Nat.le_of_ble_eq_true rfl) (e_X11_look2 (d + 0) (M 0 16) M _ _ hx1) ?_
    obtain ⟨x2, hx2, h⟩ := Option.bind_eq_some_iff.mp h
    refine Z_callS8 k_X11_advance k_X11_isLetter rfl rfl (l_11_127) [vI x1.1] [] rfl rfl (Nat.le_of_ble_eq_true rfl) (Nat.le_of_ble_eq_true rfl) (e_X11_isLetter (d + 0) x1.1 x1.2 _ _ hx2) ?_
    refine Z_if k_X11_advance rfl 182 rfl (fun hc => ?_) (fun hc => ?_)
    · replace h := of_pos hc h
      obtain ⟨M3, eM3, h⟩ := of_zlet h
      refine Z_blk k_X11_advance 7 (pc' := 195) (lo' := [some (vR 0 21 0), none]) (st' := []) (M1 := M3) (by rw [eM3]; rfl) ?_
      refine Z_blk k_X11_advance 1 (pc' := 330) (lo' := [some (vR 0 21 0), none]) (st' := []) (M1 := M3) rfl ?_
      cases h
      exact Z_ret ⟨rfl, _, rfl⟩ rfl
    · replace h := of_neg hc h
      refine Z_blk k_X11_advance 7 (pc' := 135) (lo' := [some (vR 0 21 0), none]) (st' := [vI 8, vI (o_sub (x2.2 0 16) (x2.2 0 15)), vR 0 21 0]) (M1 := x2.2) rfl ?_
      refine Z_icmp k_X11_advance rfl 163 rfl (fun hc => ?_) (fun hc => ?_)
      · replace h := of_pos hc h
        obtain ⟨M4, eM4, h⟩ := of_zlet h
        refine Z_blk k_X11_advance 2 (pc' := 169) (lo' := [some (vR 0 21 0), none]) (st' := []) (M1 := M4) (by rw [eM4]; rfl) ?_
        obtain ⟨M5, eM5, h⟩ := of_zlet h
        refine Z_blk k_X11_advance 6 (pc' := 179) (lo' := [some (vR 0 21 0), none]) (st' := []) (M1 := M5) (by rw [eM5]; rfl) ?_
        refine Z_blk k_X11_advance 1 (pc' := 109) (lo' := [some (vR 0 21 0), none]) (st' := []) (M1 := M5) rfl ?_
        refine Z_mask [true, false] (lo0 := [some (vR 0 21 0), none]) rfl ?_
        exact ih M5 _ h
      · replace h := of_neg hc h
        refine Z_blk k_X11_advance 7 (pc' := 151) (lo' := [some (vR 0 21 0), none]) (st' := [vI (x2.2 0 16), vR 0 21 0, vL (l_mul (x2.2 0 19) 32), vR 0 21 0]) (M1 := x2.2) rfl ?_
        obtain ⟨x6, hx6, h⟩ := Option.bind_eq_some_iff.mp h
        refine Z_callV8 k_X11_advance k_X11_look2 rfl rfl (l_11_121) (ci := 11) rfl [vI (x2.2 0 16)] [vL (l_mul (x2.2 0 19) 32), vR 0 21 0] rfl rfl (Nat.le_of_ble_eq_true rfl) (Nat.le_of_ble_eq_true rfl) (e_X11_look2 (d + 0) (x2.2 0 16) x2.2 _ _ hx6) ?_
        obtain ⟨M7, eM7, h⟩ := of_zlet h
        refine Z_blk k_X11_advance 6 (pc' := 169) (lo' := [some (vR 0 21 0), none]) (st' := []) (M1 := M7) (by rw [eM7]; rfl) ?_
        obtain ⟨M8, eM8, h⟩ := of_zlet h
        refine Z_blk k_X11_advance 6 (pc' := 179) (lo' := [some (vR 0 21 0), none]) (st' := []) (M1 := M8) (by rw [eM8]; rfl) ?_
        refine Z_blk k_X11_advance 1 (pc' := 109) (lo' := [some (vR 0 21 0), none]) (st' := []) (M1 := M8) rfl ?_
        refine Z_mask [true, false] (lo0 := [some (vR 0 21 0), none]) rfl ?_
        exact ih M8 _ h
def f_X11_advance_210 : Nat → AM → Option (AM)
  | 0, _ => none
  | n + 1, M => (f_X11_look2 (M 0 16) M).bind fun x1 => (f_X11_isDigit x1.1 x1.2).bind fun x2 => if x2.1 = 0 then (if o_sub (x2.2 0 16) (x2.2 0 15) ≤ 4 then (zlet (am_upd x2.2 0 14 2) fun M3 => some M3) else (zlet (am_upd x2.2 0 14 4) fun M4 => some M4)) else (if 4 ≤ o_sub (x2.2 0 16) (x2.2 0 15) then (zlet (am_upd x2.2 0 16 (o_add (x2.2 0 16) 1)) fun M5 => f_X11_advance_210 n M5) else ((f_X11_look2 (x2.2 0 16) x2.2).bind fun x6 => zlet (am_upd x6.2 0 17 (o_sub (o_add (o_mul 10 (x2.2 0 17)) x6.1) 48)) fun M7 => zlet (am_upd M7 0 16 (o_add (M7 0 16) 1)) fun M8 => f_X11_advance_210 n M8))
theorem e_X11_advance_210 {Y : List (Nat × Nat)} (d : Nat) : ∀ (n : Nat) (M : AM) (N : AM), f_X11_advance_210 n M = some N → Ev Y (d + 1) m_X11_advance 210 [some (vR 0 21 0), none] [] M none N := by
  intro n
  induction n with
  | zero => intro M N h; cases h
  | succ n ih =>
    intro M N h
    simp only [f_X11_advance_210] at h
    refine Z_blk k_X11_advance 3 (pc' := 215) (lo' := [some (vR 0 21 0), none]) (st' := [vI (M 0 16), vR 0 21 0]) (M1 := M) rfl ?_
    obtain ⟨x1, hx1, h⟩ := Option.bind_eq_some_iff.mp h
    refine Z_callV8 k_X11_advance k_X11_look2 rfl rfl (l_11_121) (ci := 11) rfl [vI (M 0 16)] [] rfl rfl (Nat.le_of_ble_eq_true rfl) (Nat.le_of_ble_eq_true rfl) (e_X11_look2 (d + 0) (M 0 16) M _ _ hx1) ?_
    obtain ⟨x2, hx2, h⟩ := Option.bind_eq_some_iff.mp h
    refine Z_callS8 k_X11_advance k_X11_isDigit rfl rfl (l_11_140) [vI x1.1] [] rfl rfl (Nat.le_of_ble_eq_true rfl) (Nat.le_of_ble_eq_true rfl) (e_X11_isDigit (d + 0) x1.1 x1.2 _ _ hx2) ?_
    refine Z_if k_X11_advance rfl 273 rfl (fun hc => ?_) (fun hc => ?_)
    · replace h := of_pos hc h
      refine Z_blk k_X11_advance 7 (pc' := 284) (lo' := [some (vR 0 21 0), none]) (st' := [vI 4, vI (o_sub (x2.2 0 16) (x2.2 0 15)), vR 0 21 0]) (M1 := x2.2) rfl ?_
      refine Z_icmp k_X11_advance rfl 291 rfl (fun hc => ?_) (fun hc => ?_)
      · replace h := of_pos hc h
        obtain ⟨M3, eM3, h⟩ := of_zlet h
        refine Z_blk k_X11_advance 2 (pc' := 295) (lo' := [some (vR 0 21 0), none]) (st' := []) (M1 := M3) (by rw [eM3]; rfl) ?_
        refine Z_blk k_X11_advance 1 (pc' := 330) (lo' := [some (vR 0 21 0), none]) (st' := []) (M1 := M3) rfl ?_
        cases h
        exact Z_ret ⟨rfl, _, rfl⟩ rfl
      · replace h := of_neg hc h
        obtain ⟨M4, eM4, h⟩ := of_zlet h
        refine Z_blk k_X11_advance 3 (pc' := 295) (lo' := [some (vR 0 21 0), none]) (st' := []) (M1 := M4) (by rw [eM4]; rfl) ?_
        refine Z_blk k_X11_advance 1 (pc' := 330) (lo' := [some (vR 0 21 0), none]) (st' := []) (M1 := M4) rfl ?_
        cases h
        exact Z_ret ⟨rfl, _, rfl⟩ rfl
    · replace h := of_neg hc h
      refine Z_blk k_X11_advance 6 (pc' := 234) (lo' := [some (vR 0 21 0), none]) (st' := [vI 4, vI (o_sub (x2.2 0 16) (x2.2 0 15))]) (M1 := x2.2) rfl ?_
      refine Z_icmp k_X11_advance rfl 260 rfl (fun hc => ?_) (fun hc => ?_)
      · replace h := of_pos hc h
        obtain ⟨M5, eM5, h⟩ := of_zlet h
        refine Z_blk k_X11_advance 6 (pc' := 270) (lo' := [some (vR 0 21 0), none]) (st' := []) (M1 := M5) (by rw [eM5]; rfl) ?_
        refine Z_blk k_X11_advance 1 (pc' := 210) (lo' := [some (vR 0 21 0), none]) (st' := []) (M1 := M5) rfl ?_
        refine Z_mask [true, false] (lo0 := [some (vR 0 21 0), none]) rfl ?_
        exact ih M5 _ h
      · replace h := of_neg hc h
        refine Z_blk k_X11_advance 8 (pc' := 250) (lo' := [some (vR 0 21 0), none]) (st' := [vI (x2.2 0 16), vR 0 21 0, vI (o_mul 10 (x2.2 0 17)), vR 0 21 0]) (M1 := x2.2) rfl ?_
        obtain ⟨x6, hx6, h⟩ := Option.bind_eq_some_iff.mp h
        refine Z_callV8 k_X11_advance k_X11_look2 rfl rfl (l_11_121) (ci := 11) rfl [vI (x2.2 0 16)] [vI (o_mul 10 (x2.2 0 17)), vR 0 21 0] rfl rfl (Nat.le_of_ble_eq_true rfl) (Nat.le_of_ble_eq_true rfl) (e_X11_look2 (d + 0) (x2.2 0 16) x2.2 _ _ hx6) ?_
        obtain ⟨M7, eM7, h⟩ := of_zlet h
        refine Z_blk k_X11_advance 4 (pc' := 260) (lo' := [some (vR 0 21 0), none]) (st' := []) (M1 := M7) (by rw [eM7]; rfl) ?_
        obtain ⟨M8, eM8, h⟩ := of_zlet h
        refine Z_blk k_X11_advance 6 (pc' := 270) (lo' := [some (vR 0 21 0), none]) (st' := []) (M1 := M8) (by rw [eM8]; rfl) ?_
        refine Z_blk k_X11_advance 1 (pc' := 210) (lo' := [some (vR 0 21 0), none]) (st' := []) (M1 := M8) rfl ?_
        refine Z_mask [true, false] (lo0 := [some (vR 0 21 0), none]) rfl ?_
        exact ih M8 _ h
def f_X11_advance_58 (M : AM) : Option (AM) := zlet (am_upd M 0 16 (M 0 15)) fun M1 => if M1 0 15 < M1 0 9 then ((f_X11_look2 (M1 0 15) M1).bind fun x2 => (f_X11_isLetter x2.1 x2.2).bind fun x3 => if x3.1 = 0 then ((f_X11_isDigit x2.1 x3.2).bind fun x4 => if x4.1 = 0 then (zlet (am_upd x4.2 0 16 (o_add (x4.2 0 15) 1)) fun M5 => zlet (am_upd M5 0 17 x2.1) fun M6 => (f_X11_isSignByte x2.1 M6).bind fun x7 => if x7.1 = 0 then (zlet (am_upd x7.2 0 14 4) fun M8 => some M8) else (zlet (am_upd x7.2 0 14 3) fun M9 => some M9)) else (zlet (am_upd x4.2 0 17 0) fun M10 => f_X11_advance_210 zB M10)) else (zlet (am_upd x3.2 0 14 1) fun M11 => zlet (am_upd M11 0 19 0) fun M12 => f_X11_advance_109 zB M12)) else (zlet (am_upd M1 0 14 0) fun M13 => some M13)
theorem e_X11_advance_58 {Y : List (Nat × Nat)} (d : Nat) (M : AM) (N : AM) (h : f_X11_advance_58 M = some N) : Ev Y (d + 1) m_X11_advance 58 [some (vR 0 21 0), none] [] M none N := by
  unfold f_X11_advance_58 at h
  obtain ⟨M1, eM1, h⟩ := of_zlet h
  refine Z_blk k_X11_advance 4 (pc' := 66) (lo' := [some (vR 0 21 0), none]) (st' := []) (M1 := M1) (by rw [eM1]; rfl) ?_
  refine Z_blk k_X11_advance 4 (pc' := 74) (lo' := [some (vR 0 21 0), none]) (st' := [vI (M1 0 9), vI (M1 0 15)]) (M1 := M1) rfl ?_
  refine Z_icmp k_X11_advance rfl 83 rfl (fun hc => ?_) (fun hc => ?_)
  · replace h := of_pos hc h
    refine Z_blk k_X11_advance 3 (pc' := 88) (lo' := [some (vR 0 21 0), none]) (st' := [vI (M1 0 15), vR 0 21 0]) (M1 := M1) rfl ?_
    obtain ⟨x2, hx2, h⟩ := Option.bind_eq_some_iff.mp h
    refine Z_callV8 k_X11_advance k_X11_look2 rfl rfl (l_11_121) (ci := 11) rfl [vI (M1 0 15)] [] rfl rfl (Nat.le_of_ble_eq_true rfl) (Nat.le_of_ble_eq_true rfl) (e_X11_look2 (d + 0) (M1 0 15) M1 _ _ hx2) ?_
    refine Z_blk k_X11_advance 2 (pc' := 93) (lo' := [some (vR 0 21 0), some (vI x2.1)]) (st' := [vI x2.1]) (M1 := x2.2) rfl ?_
    obtain ⟨x3, hx3, h⟩ := Option.bind_eq_some_iff.mp h
    refine Z_callS8 k_X11_advance k_X11_isLetter rfl rfl (l_11_127) [vI x2.1] [] rfl rfl (Nat.le_of_ble_eq_true rfl) (Nat.le_of_ble_eq_true rfl) (e_X11_isLetter (d + 0) x2.1 x2.2 _ _ hx3) ?_
    refine Z_if k_X11_advance rfl 198 rfl (fun hc => ?_) (fun hc => ?_)
    · replace h := of_pos hc h
      refine Z_blk k_X11_advance 1 (pc' := 199) (lo' := [some (vR 0 21 0), some (vI x2.1)]) (st' := [vI x2.1]) (M1 := x3.2) rfl ?_
      obtain ⟨x4, hx4, h⟩ := Option.bind_eq_some_iff.mp h
      refine Z_callS8 k_X11_advance k_X11_isDigit rfl rfl (l_11_140) [vI x2.1] [] rfl rfl (Nat.le_of_ble_eq_true rfl) (Nat.le_of_ble_eq_true rfl) (e_X11_isDigit (d + 0) x2.1 x3.2 _ _ hx4) ?_
      refine Z_if k_X11_advance rfl 298 rfl (fun hc => ?_) (fun hc => ?_)
      · replace h := of_pos hc h
        obtain ⟨M5, eM5, h⟩ := of_zlet h
        refine Z_blk k_X11_advance 6 (pc' := 308) (lo' := [some (vR 0 21 0), some (vI x2.1)]) (st' := []) (M1 := M5) (by rw [eM5]; rfl) ?_
        obtain ⟨M6, eM6, h⟩ := of_zlet h
        refine Z_blk k_X11_advance 3 (pc' := 313) (lo' := [some (vR 0 21 0), some (vI x2.1)]) (st' := []) (M1 := M6) (by rw [eM6]; rfl) ?_
        refine Z_blk k_X11_advance 3 (pc' := 316) (lo' := [some (vR 0 21 0), some (vI x2.1)]) (st' := [vI x2.1, vR 0 21 0, vR 0 21 0]) (M1 := M6) rfl ?_
        obtain ⟨x7, hx7, h⟩ := Option.bind_eq_some_iff.mp h
        refine Z_callV8 k_X11_advance k_X11_isSignByte rfl rfl (l_11_146) (ci := 11) rfl [vI x2.1] [vR 0 21 0] rfl rfl (Nat.le_of_ble_eq_true rfl) (Nat.le_of_ble_eq_true rfl) (e_X11_isSignByte (d + 0) x2.1 M6 _ _ hx7) ?_
        refine Z_if k_X11_advance rfl 326 rfl (fun hc => ?_) (fun hc => ?_)
        · replace h := of_pos hc h
          obtain ⟨M8, eM8, h⟩ := of_zlet h
          refine Z_blk k_X11_advance 2 (pc' := 330) (lo' := [some (vR 0 21 0), some (vI x2.1)]) (st' := []) (M1 := M8) (by rw [eM8]; rfl) ?_
          cases h
          exact Z_ret ⟨rfl, _, rfl⟩ rfl
        · replace h := of_neg hc h
          obtain ⟨M9, eM9, h⟩ := of_zlet h
          refine Z_blk k_X11_advance 3 (pc' := 330) (lo' := [some (vR 0 21 0), some (vI x2.1)]) (st' := []) (M1 := M9) (by rw [eM9]; rfl) ?_
          cases h
          exact Z_ret ⟨rfl, _, rfl⟩ rfl
      · replace h := of_neg hc h
        obtain ⟨M10, eM10, h⟩ := of_zlet h
        refine Z_blk k_X11_advance 3 (pc' := 210) (lo' := [some (vR 0 21 0), some (vI x2.1)]) (st' := []) (M1 := M10) (by rw [eM10]; rfl) ?_
        refine Z_mask [true, false] (lo0 := [some (vR 0 21 0), none]) rfl ?_
        exact e_X11_advance_210 d zB M10 _ h
    · replace h := of_neg hc h
      obtain ⟨M11, eM11, h⟩ := of_zlet h
      refine Z_blk k_X11_advance 3 (pc' := 104) (lo' := [some (vR 0 21 0), some (vI x2.1)]) (st' := []) (M1 := M11) (by rw [eM11]; rfl) ?_
      obtain ⟨M12, eM12, h⟩ := of_zlet h
      refine Z_blk k_X11_advance 3 (pc' := 109) (lo' := [some (vR 0 21 0), some (vI x2.1)]) (st' := []) (M1 := M12) (by rw [eM12]; rfl) ?_
      refine Z_mask [true, false] (lo0 := [some (vR 0 21 0), none]) rfl ?_
      exact e_X11_advance_109 d zB M12 _ h
  · replace h := of_neg hc h
    obtain ⟨M13, eM13, h⟩ := of_zlet h
    refine Z_blk k_X11_advance 3 (pc' := 82) (lo' := [some (vR 0 21 0), none]) (st' := []) (M1 := M13) (by rw [eM13]; rfl) ?_
    cases h
    exact Z_ret ⟨rfl, _, rfl⟩ rfl
def f_X11_advance_8 : Nat → AM → Option (AM)
  | 0, _ => none
  | n + 1, M => if M 0 9 ≤ M 0 15 then f_X11_advance_58 M else ((f_X11_look2 (M 0 15) M).bind fun x1 => if x1.1 = 10 then (zlet (am_upd x1.2 0 15 (o_add (x1.2 0 15) 1)) fun M2 => f_X11_advance_8 n M2) else ((f_X11_look2 (x1.2 0 15) x1.2).bind fun x3 => if ¬ x3.1 = 32 then f_X11_advance_58 x3.2 else (zlet (am_upd x3.2 0 15 (o_add (x3.2 0 15) 1)) fun M4 => f_X11_advance_8 n M4)))
theorem e_X11_advance_8 {Y : List (Nat × Nat)} (d : Nat) : ∀ (n : Nat) (M : AM) (N : AM), f_X11_advance_8 n M = some N → Ev Y (d + 1) m_X11_advance 8 [some (vR 0 21 0), none] [] M none N := by
  intro n
  induction n with
  | zero => intro M N h; cases h
  | succ n ih =>
    intro M N h
    simp only [f_X11_advance_8] at h
    refine Z_blk k_X11_advance 4 (pc' := 16) (lo' := [some (vR 0 21 0), none]) (st' := [vI (M 0 9), vI (M 0 15)]) (M1 := M) rfl ?_
    refine Z_icmp k_X11_advance rfl 58 rfl (fun hc => ?_) (fun hc => ?_)
    · replace h := of_pos hc h
      refine Z_mask [true, false] (lo0 := [some (vR 0 21 0), none]) rfl ?_
      exact e_X11_advance_58 d M _ h
    · replace h := of_neg hc h
      refine Z_blk k_X11_advance 3 (pc' := 24) (lo' := [some (vR 0 21 0), none]) (st' := [vI (M 0 15), vR 0 21 0]) (M1 := M) rfl ?_
      obtain ⟨x1, hx1, h⟩ := Option.bind_eq_some_iff.mp h
      refine Z_callV8 k_X11_advance k_X11_look2 rfl rfl (l_11_121) (ci := 11) rfl [vI (M 0 15)] [] rfl rfl (Nat.le_of_ble_eq_true rfl) (Nat.le_of_ble_eq_true rfl) (e_X11_look2 (d + 0) (M 0 15) M _ _ hx1) ?_
      refine Z_blk k_X11_advance 1 (pc' := 29) (lo' := [some (vR 0 21 0), none]) (st' := [vI 10, vI x1.1]) (M1 := x1.2) rfl ?_
      refine Z_icmp k_X11_advance rfl 45 rfl (fun hc => ?_) (fun hc => ?_)
      · replace h := of_pos hc h
        obtain ⟨M2, eM2, h⟩ := of_zlet h
        refine Z_blk k_X11_advance 6 (pc' := 55) (lo' := [some (vR 0 21 0), none]) (st' := []) (M1 := M2) (by rw [eM2]; rfl) ?_
        refine Z_blk k_X11_advance 1 (pc' := 8) (lo' := [some (vR 0 21 0), none]) (st' := []) (M1 := M2) rfl ?_
        refine Z_mask [true, false] (lo0 := [some (vR 0 21 0), none]) rfl ?_
        exact ih M2 _ h
      · replace h := of_neg hc h
        refine Z_blk k_X11_advance 3 (pc' := 37) (lo' := [some (vR 0 21 0), none]) (st' := [vI (x1.2 0 15), vR 0 21 0]) (M1 := x1.2) rfl ?_
        obtain ⟨x3, hx3, h⟩ := Option.bind_eq_some_iff.mp h
        refine Z_callV8 k_X11_advance k_X11_look2 rfl rfl (l_11_121) (ci := 11) rfl [vI (x1.2 0 15)] [] rfl rfl (Nat.le_of_ble_eq_true rfl) (Nat.le_of_ble_eq_true rfl) (e_X11_look2 (d + 0) (x1.2 0 15) x1.2 _ _ hx3) ?_
        refine Z_blk k_X11_advance 1 (pc' := 42) (lo' := [some (vR 0 21 0), none]) (st' := [vI 32, vI x3.1]) (M1 := x3.2) rfl ?_
        refine Z_icmp k_X11_advance rfl 58 rfl (fun hc => ?_) (fun hc => ?_)
        · replace h := of_pos hc h
          refine Z_mask [true, false] (lo0 := [some (vR 0 21 0), none]) rfl ?_
          exact e_X11_advance_58 d x3.2 _ h
        · replace h := of_neg hc h
          obtain ⟨M4, eM4, h⟩ := of_zlet h
          refine Z_blk k_X11_advance 6 (pc' := 55) (lo' := [some (vR 0 21 0), none]) (st' := []) (M1 := M4) (by rw [eM4]; rfl) ?_
          refine Z_blk k_X11_advance 1 (pc' := 8) (lo' := [some (vR 0 21 0), none]) (st' := []) (M1 := M4) rfl ?_
          refine Z_mask [true, false] (lo0 := [some (vR 0 21 0), none]) rfl ?_
          exact ih M4 _ h
def f_X11_advance (M : AM) : Option (AM) := zlet (am_upd M 0 15 (M 0 16)) fun M1 => f_X11_advance_8 zB M1
theorem e_X11_advance {Y : List (Nat × Nat)} (d : Nat) (M : AM) (N : AM) (h : f_X11_advance M = some N) : Ev Y (d + 1) m_X11_advance 0 [some (vR 0 21 0), none] [] M none N := by
  unfold f_X11_advance at h
  obtain ⟨M1, eM1, h⟩ := of_zlet h
  refine Z_blk k_X11_advance 4 (pc' := 8) (lo' := [some (vR 0 21 0), none]) (st' := []) (M1 := M1) (by rw [eM1]; rfl) ?_
  refine Z_mask [true, false] (lo0 := [some (vR 0 21 0), none]) rfl ?_
  exact e_X11_advance_8 d zB M1 _ h
def f_X11_isSign (a1 : Int) (M : AM) : Option (Int × AM) := if ¬ M 0 14 = 3 then some (0, M) else (if ¬ M 0 17 = a1 then some (0, M) else some (1, M))
theorem e_X11_isSign {Y : List (Nat × Nat)} (d : Nat) (a1 : Int) (M : AM) (x : Int) (N : AM) (h : f_X11_isSign a1 M = some (x, N)) : Ev Y (d + 0) m_X11_isSign 0 [some (vR 0 21 0), some (vI a1)] [] M (some (vI x)) N := by
  unfold f_X11_isSign at h
  refine Z_blk k_X11_isSign 3 (pc' := 5) (lo' := [some (vR 0 21 0), some (vI a1)]) (st' := [vI 3, vI (M 0 14)]) (M1 := M) rfl ?_
  refine Z_icmp k_X11_isSign rfl 20 rfl (fun hc => ?_) (fun hc => ?_)
  · replace h := of_pos hc h
    refine Z_blk k_X11_isSign 1 (pc' := 21) (lo' := [some (vR 0 21 0), some (vI a1)]) (st' := [vI 0]) (M1 := M) rfl ?_
    cases h
    exact Z_ret ⟨Or.inr ⟨rfl, Or.inl rfl⟩, _, rfl⟩ rfl
  · replace h := of_neg hc h
    refine Z_blk k_X11_isSign 3 (pc' := 13) (lo' := [some (vR 0 21 0), some (vI a1)]) (st' := [vI a1, vI (M 0 17)]) (M1 := M) rfl ?_
    refine Z_icmp k_X11_isSign rfl 20 rfl (fun hc => ?_) (fun hc => ?_)
    · replace h := of_pos hc h
      refine Z_blk k_X11_isSign 1 (pc' := 21) (lo' := [some (vR 0 21 0), some (vI a1)]) (st' := [vI 0]) (M1 := M) rfl ?_
      cases h
      exact Z_ret ⟨Or.inr ⟨rfl, Or.inl rfl⟩, _, rfl⟩ rfl
    · replace h := of_neg hc h
      refine Z_blk k_X11_isSign 2 (pc' := 21) (lo' := [some (vR 0 21 0), some (vI a1)]) (st' := [vI 1]) (M1 := M) rfl ?_
      cases h
      exact Z_ret ⟨Or.inr ⟨rfl, Or.inr rfl⟩, _, rfl⟩ rfl
def f_X11_spelled_91 (a5 : Int) (s0 : Int) (M : AM) : Option (Int × AM) := if a5 ≤ 0 then some (s0, M) else some (l_sub (l_add (l_mul s0 32) a5) 96, M)
theorem e_X11_spelled_91 {Y : List (Nat × Nat)} (d : Nat) (a5 : Int) (s0 : Int) (M : AM) (x : Int) (N : AM) (h : f_X11_spelled_91 a5 s0 M = some (x, N)) : Ev Y (d + 0) m_X11_spelled 91 [none, none, none, none, none, some (vI a5), none, none] [vL s0] M (some (vL x)) N := by
  unfold f_X11_spelled_91 at h
  refine Z_blk k_X11_spelled 2 (pc' := 95) (lo' := [none, none, none, none, none, some (vI a5), some (vL s0), none]) (st' := [vI a5]) (M1 := M) rfl ?_
  refine Z_if k_X11_spelled rfl 115 rfl (fun hc => ?_) (fun hc => ?_)
  · replace h := of_pos hc h
    refine Z_blk k_X11_spelled 1 (pc' := 117) (lo' := [none, none, none, none, none, some (vI a5), some (vL s0), none]) (st' := [vL s0]) (M1 := M) rfl ?_
    cases h
    exact Z_ret ⟨rfl, _, rfl⟩ rfl
  · replace h := of_neg hc h
    refine Z_blk k_X11_spelled 9 (pc' := 117) (lo' := [none, none, none, none, none, some (vI a5), some (vL s0), none]) (st' := [vL (l_sub (l_add (l_mul s0 32) a5) 96)]) (M1 := M) rfl ?_
    cases h
    exact Z_ret ⟨rfl, _, rfl⟩ rfl
def f_X11_spelled_65 (a4 : Int) (a5 : Int) (s0 : Int) (M : AM) : Option (Int × AM) := if a4 ≤ 0 then f_X11_spelled_91 a5 s0 M else f_X11_spelled_91 a5 (l_sub (l_add (l_mul s0 32) a4) 96) M
theorem e_X11_spelled_65 {Y : List (Nat × Nat)} (d : Nat) (a4 : Int) (a5 : Int) (s0 : Int) (M : AM) (x : Int) (N : AM) (h : f_X11_spelled_65 a4 a5 s0 M = some (x, N)) : Ev Y (d + 0) m_X11_spelled 65 [none, none, none, none, some (vI a4), some (vI a5), none, none] [vL s0] M (some (vL x)) N := by
  unfold f_X11_spelled_65 at h
  refine Z_blk k_X11_spelled 2 (pc' := 69) (lo' := [none, none, none, none, some (vI a4), some (vI a5), some (vL s0), none]) (st' := [vI a4]) (M1 := M) rfl ?_
  refine Z_if k_X11_spelled rfl 89 rfl (fun hc => ?_) (fun hc => ?_)
  · replace h := of_pos hc h
    refine Z_blk k_X11_spelled 1 (pc' := 91) (lo' := [none, none, none, none, some (vI a4), some (vI a5), some (vL s0), none]) (st' := [vL s0]) (M1 := M) rfl ?_
    refine Z_mask [false, false, false, false, false, true, false, false] (lo0 := [none, none, none, none, none, some (vI a5), none, none]) rfl ?_
    exact e_X11_spelled_91 d a5 s0 M _ _ h
  · replace h := of_neg hc h
    refine Z_blk k_X11_spelled 9 (pc' := 91) (lo' := [none, none, none, none, some (vI a4), some (vI a5), some (vL s0), none]) (st' := [vL (l_sub (l_add (l_mul s0 32) a4) 96)]) (M1 := M) rfl ?_
    refine Z_mask [false, false, false, false, false, true, false, false] (lo0 := [none, none, none, none, none, some (vI a5), none, none]) rfl ?_
    exact e_X11_spelled_91 d a5 (l_sub (l_add (l_mul s0 32) a4) 96) M _ _ h
def f_X11_spelled_41 (a3 : Int) (a4 : Int) (a5 : Int) (s0 : Int) (M : AM) : Option (Int × AM) := if a3 ≤ 0 then f_X11_spelled_65 a4 a5 s0 M else f_X11_spelled_65 a4 a5 (l_sub (l_add (l_mul s0 32) a3) 96) M
theorem e_X11_spelled_41 {Y : List (Nat × Nat)} (d : Nat) (a3 : Int) (a4 : Int) (a5 : Int) (s0 : Int) (M : AM) (x : Int) (N : AM) (h : f_X11_spelled_41 a3 a4 a5 s0 M = some (x, N)) : Ev Y (d + 0) m_X11_spelled 41 [none, none, none, some (vI a3), some (vI a4), some (vI a5), none, none] [vL s0] M (some (vL x)) N := by
  unfold f_X11_spelled_41 at h
  refine Z_blk k_X11_spelled 2 (pc' := 44) (lo' := [none, none, none, some (vI a3), some (vI a4), some (vI a5), some (vL s0), none]) (st' := [vI a3]) (M1 := M) rfl ?_
  refine Z_if k_X11_spelled rfl 63 rfl (fun hc => ?_) (fun hc => ?_)
  · replace h := of_pos hc h
    refine Z_blk k_X11_spelled 1 (pc' := 65) (lo' := [none, none, none, some (vI a3), some (vI a4), some (vI a5), some (vL s0), none]) (st' := [vL s0]) (M1 := M) rfl ?_
    refine Z_mask [false, false, false, false, true, true, false, false] (lo0 := [none, none, none, none, some (vI a4), some (vI a5), none, none]) rfl ?_
    exact e_X11_spelled_65 d a4 a5 s0 M _ _ h
  · replace h := of_neg hc h
    refine Z_blk k_X11_spelled 9 (pc' := 65) (lo' := [none, none, none, some (vI a3), some (vI a4), some (vI a5), some (vL s0), none]) (st' := [vL (l_sub (l_add (l_mul s0 32) a3) 96)]) (M1 := M) rfl ?_
    refine Z_mask [false, false, false, false, true, true, false, false] (lo0 := [none, none, none, none, some (vI a4), some (vI a5), none, none]) rfl ?_
    exact e_X11_spelled_65 d a4 a5 (l_sub (l_add (l_mul s0 32) a3) 96) M _ _ h
def f_X11_spelled (a0 : Int) (a1 : Int) (a2 : Int) (a3 : Int) (a4 : Int) (a5 : Int) (M : AM) : Option (Int × AM) := if a2 ≤ 0 then f_X11_spelled_41 a3 a4 a5 (l_sub (l_add (l_mul (l_sub a0 96) 32) a1) 96) M else f_X11_spelled_41 a3 a4 a5 (l_sub (l_add (l_mul (l_sub (l_add (l_mul (l_sub a0 96) 32) a1) 96) 32) a2) 96) M
theorem e_X11_spelled {Y : List (Nat × Nat)} (d : Nat) (a0 : Int) (a1 : Int) (a2 : Int) (a3 : Int) (a4 : Int) (a5 : Int) (M : AM) (x : Int) (N : AM) (h : f_X11_spelled a0 a1 a2 a3 a4 a5 M = some (x, N)) : Ev Y (d + 0) m_X11_spelled 0 [some (vI a0), some (vI a1), some (vI a2), some (vI a3), some (vI a4), some (vI a5), none, none] [] M (some (vL x)) N := by
  unfold f_X11_spelled at h
  refine Z_blk k_X11_spelled 13 (pc' := 20) (lo' := [some (vI a0), some (vI a1), some (vI a2), some (vI a3), some (vI a4), some (vI a5), some (vL (l_sub (l_add (l_mul (l_sub a0 96) 32) a1) 96)), none]) (st' := [vI a2]) (M1 := M) rfl ?_
  refine Z_if k_X11_spelled rfl 39 rfl (fun hc => ?_) (fun hc => ?_)
  · replace h := of_pos hc h
    refine Z_blk k_X11_spelled 1 (pc' := 41) (lo' := [some (vI a0), some (vI a1), some (vI a2), some (vI a3), some (vI a4), some (vI a5), some (vL (l_sub (l_add (l_mul (l_sub a0 96) 32) a1) 96)), none]) (st' := [vL (l_sub (l_add (l_mul (l_sub a0 96) 32) a1) 96)]) (M1 := M) rfl ?_
    refine Z_mask [false, false, false, true, true, true, false, false] (lo0 := [none, none, none, some (vI a3), some (vI a4), some (vI a5), none, none]) rfl ?_
    exact e_X11_spelled_41 d a3 a4 a5 (l_sub (l_add (l_mul (l_sub a0 96) 32) a1) 96) M _ _ h
  · replace h := of_neg hc h
    refine Z_blk k_X11_spelled 9 (pc' := 41) (lo' := [some (vI a0), some (vI a1), some (vI a2), some (vI a3), some (vI a4), some (vI a5), some (vL (l_sub (l_add (l_mul (l_sub a0 96) 32) a1) 96)), none]) (st' := [vL (l_sub (l_add (l_mul (l_sub (l_add (l_mul (l_sub a0 96) 32) a1) 96) 32) a2) 96)]) (M1 := M) rfl ?_
    refine Z_mask [false, false, false, true, true, true, false, false] (lo0 := [none, none, none, some (vI a3), some (vI a4), some (vI a5), none, none]) rfl ?_
    exact e_X11_spelled_41 d a3 a4 a5 (l_sub (l_add (l_mul (l_sub (l_add (l_mul (l_sub a0 96) 32) a1) 96) 32) a2) 96) M _ _ h
