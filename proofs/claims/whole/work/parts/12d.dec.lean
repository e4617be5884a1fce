theorem l_10_122 : zhas 3026 (Jvm.Cond.methodLink "BellPullHouse" 122 yX10_wrongPlace) = true := by decide +kernel
theorem l_10_126 : zhas 3034 (Jvm.Cond.methodLink "BellPullHouse" 126 yX6_put) = true := by decide +kernel
def f_X10_write (a1 : Int) (a2 : Int) (a3 : Int) (M : AM) : Option (Int × AM) := (f_X10_wrongPlace a1 a2 M).bind fun x1 => if x1.1 = 0 then (if 0 ≤ a1 ∧ a1 < 4 then ((f_X6_put (16 + 58 + 2 * (Int.toNat a1)) a2 a3 x1.2).bind fun x3 => (f_X10_agree x3).bind fun x4 => if x4.1 = 0 ∨ x4.1 = 1 then some (x4.1, x4.2) else none) else none) else ((f_X10_refuse x1.1 x1.2).bind fun x6 => if x6.1 = 0 ∨ x6.1 = 1 then some (x6.1, x6.2) else none)
theorem e_X10_write {Y : List (Nat × Nat)} (d : Nat) (a1 : Int) (a2 : Int) (a3 : Int) (M : AM) (x : Int) (N : AM) (h : f_X10_write a1 a2 a3 M = some (x, N)) : Ev Y (d + 2) m_X10_write 0 [some (vR 15 20 0), some (vI a1), some (vI a2), some (vL a3), none, none] [] M (some (vI x)) N := by
  unfold f_X10_write at h
  refine Z_blk k_X10_write 3 (pc' := 3) (lo' := [some (vR 15 20 0), some (vI a1), some (vI a2), some (vL a3), none, none]) (st' := [vI a2, vI a1, vR 15 20 0]) (M1 := M) rfl ?_
  obtain ⟨x1, hx1, h⟩ := Option.bind_eq_some_iff.mp h
  refine Z_callV8 k_X10_write k_X10_wrongPlace rfl rfl (l_10_122) (ci := 10) rfl [vI a1, vI a2] [] rfl rfl (Nat.le_of_ble_eq_true rfl) (Nat.le_of_ble_eq_true rfl) (e_X10_wrongPlace (d + 0) a1 a2 M _ _ hx1) ?_
  refine Z_blk k_X10_write 2 (pc' := 10) (lo' := [some (vR 15 20 0), some (vI a1), some (vI a2), some (vL a3), none, some (vI x1.1)]) (st' := [vI x1.1]) (M1 := x1.2) rfl ?_
  refine Z_if k_X10_write rfl 20 rfl (fun hc => ?_) (fun hc => ?_)
  · replace h := of_pos hc h
    refine Z_blk k_X10_write 3 (pc' := 25) (lo' := [some (vR 15 20 0), some (vI a1), some (vI a2), some (vL a3), none, some (vI x1.1)]) (st' := [vI a1, vR 16 3 4]) (M1 := x1.2) rfl ?_
    obtain ⟨hc2, h⟩ := of_grd h
    refine Z_one k_X10_write rfl (pc' := 26) (lo' := [some (vR 15 20 0), some (vI a1), some (vI a2), some (vL a3), none, some (vI x1.1)]) (st' := [vR (16 + 58 + 2 * (Int.toNat a1)) 16 0]) (M1 := x1.2) (if_pos hc2) ?_
    refine Z_blk k_X10_write 2 (pc' := 28) (lo' := [some (vR 15 20 0), some (vI a1), some (vI a2), some (vL a3), none, some (vI x1.1)]) (st' := [vL a3, vI a2, vR (16 + 58 + 2 * (Int.toNat a1)) 16 0]) (M1 := x1.2) rfl ?_
    obtain ⟨x3, hx3, h⟩ := Option.bind_eq_some_iff.mp h
    refine Z_callV8 k_X10_write k_X6_put rfl rfl (l_10_126) (ci := 6) rfl [vI a2, vL a3] [] rfl rfl (Nat.le_of_ble_eq_true rfl) (Nat.le_of_ble_eq_true rfl) (e_X6_put (d + 0) (16 + 58 + 2 * (Int.toNat a1)) a2 a3 x1.2 _ hx3) ?_
    refine Z_blk k_X10_write 1 (pc' := 32) (lo' := [some (vR 15 20 0), some (vI a1), some (vI a2), some (vL a3), none, some (vI x1.1)]) (st' := [vR 15 20 0]) (M1 := x3) rfl ?_
    obtain ⟨x4, hx4, h⟩ := Option.bind_eq_some_iff.mp h
    refine Z_callV8 k_X10_write k_X10_agree rfl rfl (l_10_118) (ci := 10) rfl [] [] rfl rfl (Nat.le_of_ble_eq_true rfl) (Nat.le_of_ble_eq_true rfl) (e_X10_agree (d + 1) x3 _ _ hx4) ?_
    obtain ⟨hc5, h⟩ := of_grd h
    cases h
    exact Z_ret ⟨Or.inr ⟨rfl, hc5⟩, _, rfl⟩ rfl
  · replace h := of_neg hc h
    refine Z_blk k_X10_write 2 (pc' := 16) (lo' := [some (vR 15 20 0), some (vI a1), some (vI a2), some (vL a3), none, some (vI x1.1)]) (st' := [vI x1.1, vR 15 20 0]) (M1 := x1.2) rfl ?_
    obtain ⟨x6, hx6, h⟩ := Option.bind_eq_some_iff.mp h
    refine Z_callV8 k_X10_write k_X10_refuse rfl rfl (l_10_111) (ci := 10) rfl [vI x1.1] [] rfl rfl (Nat.le_of_ble_eq_true rfl) (Nat.le_of_ble_eq_true rfl) (e_X10_refuse (d + 1) x1.1 x1.2 _ _ hx6) ?_
    obtain ⟨hc7, h⟩ := of_grd h
    cases h
    exact Z_ret ⟨Or.inr ⟨rfl, hc7⟩, _, rfl⟩ rfl
def f_X10_fail (a1 : Int) (M : AM) : Option (Int × AM) := zlet (am_upd M 15 0 a1) fun M1 => some ((-1), M1)
theorem e_X10_fail {Y : List (Nat × Nat)} (d : Nat) (a1 : Int) (M : AM) (x : Int) (N : AM) (h : f_X10_fail a1 M = some (x, N)) : Ev Y (d + 0) m_X10_fail 0 [some (vR 15 20 0), some (vI a1)] [] M (some (vI x)) N := by
  unfold f_X10_fail at h
  obtain ⟨M1, eM1, h⟩ := of_zlet h
  refine Z_blk k_X10_fail 3 (pc' := 5) (lo' := [some (vR 15 20 0), some (vI a1)]) (st' := []) (M1 := M1) (by rw [eM1]; rfl) ?_
  refine Z_blk k_X10_fail 1 (pc' := 6) (lo' := [some (vR 15 20 0), some (vI a1)]) (st' := [vI (-1)]) (M1 := M1) rfl ?_
  cases h
  exact Z_ret ⟨Or.inl rfl, _, rfl⟩ rfl
theorem l_10_130 : zhas 3047 (Jvm.Cond.methodLink "BellPullHouse" 130 yX10_fail) = true := by decide +kernel
theorem l_10_134 : zhas 3051 (Jvm.Cond.methodLink "BellPullHouse" 134 yX6_get) = true := by decide +kernel
def f_X10_read (a1 : Int) (a2 : Int) (M : AM) : Option (Int × AM) := (f_X10_wrongPlace a1 a2 M).bind fun x1 => if x1.1 = 0 then (zlet (am_upd x1.2 15 0 0) fun M2 => if 0 ≤ a1 ∧ a1 < 4 then ((f_X6_get (16 + 58 + 2 * (Int.toNat a1)) a2 M2).bind fun x4 => some (x4.1, x4.2)) else none) else ((f_X10_fail x1.1 x1.2).bind fun x5 => some (x5.1, x5.2))
theorem e_X10_read {Y : List (Nat × Nat)} (d : Nat) (a1 : Int) (a2 : Int) (M : AM) (x : Int) (N : AM) (h : f_X10_read a1 a2 M = some (x, N)) : Ev Y (d + 2) m_X10_read 0 [some (vR 15 20 0), some (vI a1), some (vI a2), none] [] M (some (vL x)) N := by
  unfold f_X10_read at h
  refine Z_blk k_X10_read 3 (pc' := 3) (lo' := [some (vR 15 20 0), some (vI a1), some (vI a2), none]) (st' := [vI a2, vI a1, vR 15 20 0]) (M1 := M) rfl ?_
  obtain ⟨x1, hx1, h⟩ := Option.bind_eq_some_iff.mp h
  refine Z_callV8 k_X10_read k_X10_wrongPlace rfl rfl (l_10_122) (ci := 10) rfl [vI a1, vI a2] [] rfl rfl (Nat.le_of_ble_eq_true rfl) (Nat.le_of_ble_eq_true rfl) (e_X10_wrongPlace (d + 0) a1 a2 M _ _ hx1) ?_
  refine Z_blk k_X10_read 2 (pc' := 8) (lo' := [some (vR 15 20 0), some (vI a1), some (vI a2), some (vI x1.1)]) (st' := [vI x1.1]) (M1 := x1.2) rfl ?_
  refine Z_if k_X10_read rfl 18 rfl (fun hc => ?_) (fun hc => ?_)
  · replace h := of_pos hc h
    obtain ⟨M2, eM2, h⟩ := of_zlet h
    refine Z_blk k_X10_read 3 (pc' := 23) (lo' := [some (vR 15 20 0), some (vI a1), some (vI a2), some (vI x1.1)]) (st' := []) (M1 := M2) (by rw [eM2]; rfl) ?_
    refine Z_blk k_X10_read 3 (pc' := 28) (lo' := [some (vR 15 20 0), some (vI a1), some (vI a2), some (vI x1.1)]) (st' := [vI a1, vR 16 3 4]) (M1 := M2) rfl ?_
    obtain ⟨hc3, h⟩ := of_grd h
    refine Z_one k_X10_read rfl (pc' := 29) (lo' := [some (vR 15 20 0), some (vI a1), some (vI a2), some (vI x1.1)]) (st' := [vR (16 + 58 + 2 * (Int.toNat a1)) 16 0]) (M1 := M2) (if_pos hc3) ?_
    refine Z_blk k_X10_read 1 (pc' := 30) (lo' := [some (vR 15 20 0), some (vI a1), some (vI a2), some (vI x1.1)]) (st' := [vI a2, vR (16 + 58 + 2 * (Int.toNat a1)) 16 0]) (M1 := M2) rfl ?_
    obtain ⟨x4, hx4, h⟩ := Option.bind_eq_some_iff.mp h
    refine Z_callV8 k_X10_read k_X6_get rfl rfl (l_10_134) (ci := 6) rfl [vI a2] [] rfl rfl (Nat.le_of_ble_eq_true rfl) (Nat.le_of_ble_eq_true rfl) (e_X6_get (d + 0) (16 + 58 + 2 * (Int.toNat a1)) a2 M2 _ _ hx4) ?_
    cases h
    exact Z_ret ⟨rfl, _, rfl⟩ rfl
  · replace h := of_neg hc h
    refine Z_blk k_X10_read 2 (pc' := 13) (lo' := [some (vR 15 20 0), some (vI a1), some (vI a2), some (vI x1.1)]) (st' := [vI x1.1, vR 15 20 0]) (M1 := x1.2) rfl ?_
    obtain ⟨x5, hx5, h⟩ := Option.bind_eq_some_iff.mp h
    refine Z_callV8 k_X10_read k_X10_fail rfl rfl (l_10_130) (ci := 10) rfl [vI x1.1] [] rfl rfl (Nat.le_of_ble_eq_true rfl) (Nat.le_of_ble_eq_true rfl) (e_X10_fail (d + 1) x1.1 x1.2 _ _ hx5) ?_
    refine Z_blk k_X10_read 1 (pc' := 17) (lo' := [some (vR 15 20 0), some (vI a1), some (vI a2), some (vI x1.1)]) (st' := [vL x5.1]) (M1 := x5.2) rfl ?_
    cases h
    exact Z_ret ⟨rfl, _, rfl⟩ rfl
def f_X10_pour_14 (M : AM) : Option (Int × AM) := (f_X10_refuse 1 M).bind fun x1 => if x1.1 = 0 ∨ x1.1 = 1 then some (x1.1, x1.2) else none
theorem e_X10_pour_14 {Y : List (Nat × Nat)} (d : Nat) (M : AM) (x : Int) (N : AM) (h : f_X10_pour_14 M = some (x, N)) : Ev Y (d + 1) m_X10_pour 14 [some (vR 15 20 0), none, none, none, none, none, none, none] [] M (some (vI x)) N := by
  unfold f_X10_pour_14 at h
  refine Z_blk k_X10_pour 2 (pc' := 16) (lo' := [some (vR 15 20 0), none, none, none, none, none, none, none]) (st' := [vI 1, vR 15 20 0]) (M1 := M) rfl ?_
  obtain ⟨x1, hx1, h⟩ := Option.bind_eq_some_iff.mp h
  refine Z_callV8 k_X10_pour k_X10_refuse rfl rfl (l_10_111) (ci := 10) rfl [vI 1] [] rfl rfl (Nat.le_of_ble_eq_true rfl) (Nat.le_of_ble_eq_true rfl) (e_X10_refuse (d + 0) 1 M _ _ hx1) ?_
  obtain ⟨hc2, h⟩ := of_grd h
  cases h
  exact Z_ret ⟨Or.inr ⟨rfl, hc2⟩, _, rfl⟩ rfl
def f_X10_pour_52 (M : AM) : Option (Int × AM) := (f_X10_refuse 3 M).bind fun x1 => if x1.1 = 0 ∨ x1.1 = 1 then some (x1.1, x1.2) else none
theorem e_X10_pour_52 {Y : List (Nat × Nat)} (d : Nat) (M : AM) (x : Int) (N : AM) (h : f_X10_pour_52 M = some (x, N)) : Ev Y (d + 1) m_X10_pour 52 [some (vR 15 20 0), none, none, none, none, none, none, none] [] M (some (vI x)) N := by
  unfold f_X10_pour_52 at h
  refine Z_blk k_X10_pour 2 (pc' := 54) (lo' := [some (vR 15 20 0), none, none, none, none, none, none, none]) (st' := [vI 3, vR 15 20 0]) (M1 := M) rfl ?_
  obtain ⟨x1, hx1, h⟩ := Option.bind_eq_some_iff.mp h
  refine Z_callV8 k_X10_pour k_X10_refuse rfl rfl (l_10_111) (ci := 10) rfl [vI 3] [] rfl rfl (Nat.le_of_ble_eq_true rfl) (Nat.le_of_ble_eq_true rfl) (e_X10_refuse (d + 0) 3 M _ _ hx1) ?_
  obtain ⟨hc2, h⟩ := of_grd h
  cases h
  exact Z_ret ⟨Or.inr ⟨rfl, hc2⟩, _, rfl⟩ rfl
def f_X10_pour_113 (M : AM) : Option (Int × AM) := (f_X10_refuse 4 M).bind fun x1 => if x1.1 = 0 ∨ x1.1 = 1 then some (x1.1, x1.2) else none
theorem e_X10_pour_113 {Y : List (Nat × Nat)} (d : Nat) (M : AM) (x : Int) (N : AM) (h : f_X10_pour_113 M = some (x, N)) : Ev Y (d + 1) m_X10_pour 113 [some (vR 15 20 0), none, none, none, none, none, none, none] [] M (some (vI x)) N := by
  unfold f_X10_pour_113 at h
  refine Z_blk k_X10_pour 2 (pc' := 115) (lo' := [some (vR 15 20 0), none, none, none, none, none, none, none]) (st' := [vI 4, vR 15 20 0]) (M1 := M) rfl ?_
  obtain ⟨x1, hx1, h⟩ := Option.bind_eq_some_iff.mp h
  refine Z_callV8 k_X10_pour k_X10_refuse rfl rfl (l_10_111) (ci := 10) rfl [vI 4] [] rfl rfl (Nat.le_of_ble_eq_true rfl) (Nat.le_of_ble_eq_true rfl) (e_X10_refuse (d + 0) 4 M _ _ hx1) ?_
  obtain ⟨hc2, h⟩ := of_grd h
  cases h
  exact Z_ret ⟨Or.inr ⟨rfl, hc2⟩, _, rfl⟩ rfl
def f_X10_pour (a1 : Int) (a2 : Int) (a3 : Int) (a4 : Int) (a5 : Int) (M : AM) : Option (Int × AM) := (f_X10_isTray a1 M).bind fun x1 => if x1.1 = 0 then f_X10_pour_14 x1.2 else ((f_X10_isTray a3 x1.2).bind fun x2 => if ¬ x2.1 = 0 then (if 0 ≤ a1 ∧ a1 < 4 then (if 0 ≤ a3 ∧ a3 < 4 then (if x2.2 (16 + 58 + 2 * (Int.toNat a1)) 1 = 0 then f_X10_pour_52 x2.2 else (if ¬ x2.2 (16 + 58 + 2 * (Int.toNat a3)) 1 = 0 then (if x2.2 (16 + 58 + 2 * (Int.toNat a1)) 2 = x2.2 (16 + 58 + 2 * (Int.toNat a3)) 2 then (if 0 ≤ a5 then ((f_X6_hasRow (16 + 58 + 2 * (Int.toNat a1)) a2 a5 x2.2).bind fun x5 => if x5.1 = 0 then f_X10_pour_113 x5.2 else ((f_X6_hasRow (16 + 58 + 2 * (Int.toNat a3)) a4 a5 x5.2).bind fun x6 => if ¬ x6.1 = 0 then (if 0 ≤ a2 ∧ 0 ≤ a4 ∧ 0 ≤ a5 ∧ a2 + a5 ≤ 60 ∧ a4 + a5 ≤ 60 then (zlet (am_row x6.2 (16 + 58 + 2 * (Int.toNat a3) + 1) (cp_row (x6.2 (16 + 58 + 2 * (Int.toNat a1) + 1)) (x6.2 (16 + 58 + 2 * (Int.toNat a3) + 1)) (Int.toNat a2) (Int.toNat a4) (Int.toNat a5))) fun M8 => (f_X10_agree M8).bind fun x9 => if x9.1 = 0 ∨ x9.1 = 1 then some (x9.1, x9.2) else none) else none) else f_X10_pour_113 x6.2)) else ((f_X10_refuse 6 x2.2).bind fun x11 => if x11.1 = 0 ∨ x11.1 = 1 then some (x11.1, x11.2) else none)) else ((f_X10_refuse 11 x2.2).bind fun x13 => if x13.1 = 0 ∨ x13.1 = 1 then some (x13.1, x13.2) else none)) else f_X10_pour_52 x2.2)) else none) else none) else f_X10_pour_14 x2.2)
theorem e_X10_pour {Y : List (Nat × Nat)} (d : Nat) (a1 : Int) (a2 : Int) (a3 : Int) (a4 : Int) (a5 : Int) (M : AM) (x : Int) (N : AM) (h : f_X10_pour a1 a2 a3 a4 a5 M = some (x, N)) : Ev Y (d + 1) m_X10_pour 0 [some (vR 15 20 0), some (vI a1), some (vI a2), some (vI a3), some (vI a4), some (vI a5), none, none] [] M (some (vI x)) N := by
  unfold f_X10_pour at h
  refine Z_blk k_X10_pour 1 (pc' := 1) (lo' := [some (vR 15 20 0), some (vI a1), some (vI a2), some (vI a3), some (vI a4), some (vI a5), none, none]) (st' := [vI a1]) (M1 := M) rfl ?_
  obtain ⟨x1, hx1, h⟩ := Option.bind_eq_some_iff.mp h
  refine Z_callS8 k_X10_pour k_X10_isTray rfl rfl (l_10_107) [vI a1] [] rfl rfl (Nat.le_of_ble_eq_true rfl) (Nat.le_of_ble_eq_true rfl) (e_X10_isTray (d + 0) a1 M _ _ hx1) ?_
  refine Z_if k_X10_pour rfl 14 rfl (fun hc => ?_) (fun hc => ?_)
  · replace h := of_pos hc h
    refine Z_mask [true, false, false, false, false, false, false, false] (lo0 := [some (vR 15 20 0), none, none, none, none, none, none, none]) rfl ?_
    exact e_X10_pour_14 d x1.2 _ _ h
  · replace h := of_neg hc h
    refine Z_blk k_X10_pour 1 (pc' := 8) (lo' := [some (vR 15 20 0), some (vI a1), some (vI a2), some (vI a3), some (vI a4), some (vI a5), none, none]) (st' := [vI a3]) (M1 := x1.2) rfl ?_
    obtain ⟨x2, hx2, h⟩ := Option.bind_eq_some_iff.mp h
    refine Z_callS8 k_X10_pour k_X10_isTray rfl rfl (l_10_107) [vI a3] [] rfl rfl (Nat.le_of_ble_eq_true rfl) (Nat.le_of_ble_eq_true rfl) (e_X10_isTray (d + 0) a3 x1.2 _ _ hx2) ?_
    refine Z_if k_X10_pour rfl 20 rfl (fun hc => ?_) (fun hc => ?_)
    · replace h := of_pos hc h
      refine Z_blk k_X10_pour 3 (pc' := 25) (lo' := [some (vR 15 20 0), some (vI a1), some (vI a2), some (vI a3), some (vI a4), some (vI a5), none, none]) (st' := [vI a1, vR 16 3 4]) (M1 := x2.2) rfl ?_
      obtain ⟨hc3, h⟩ := of_grd h
      refine Z_one k_X10_pour rfl (pc' := 26) (lo' := [some (vR 15 20 0), some (vI a1), some (vI a2), some (vI a3), some (vI a4), some (vI a5), none, none]) (st' := [vR (16 + 58 + 2 * (Int.toNat a1)) 16 0]) (M1 := x2.2) (if_pos hc3) ?_
      refine Z_blk k_X10_pour 4 (pc' := 33) (lo' := [some (vR 15 20 0), some (vI a1), some (vI a2), some (vI a3), some (vI a4), some (vI a5), some (vR (16 + 58 + 2 * (Int.toNat a1)) 16 0), none]) (st' := [vI a3, vR 16 3 4]) (M1 := x2.2) rfl ?_
      obtain ⟨hc4, h⟩ := of_grd h
      refine Z_one k_X10_pour rfl (pc' := 34) (lo' := [some (vR 15 20 0), some (vI a1), some (vI a2), some (vI a3), some (vI a4), some (vI a5), some (vR (16 + 58 + 2 * (Int.toNat a1)) 16 0), none]) (st' := [vR (16 + 58 + 2 * (Int.toNat a3)) 16 0]) (M1 := x2.2) (if_pos hc4) ?_
      refine Z_blk k_X10_pour 3 (pc' := 41) (lo' := [some (vR 15 20 0), some (vI a1), some (vI a2), some (vI a3), some (vI a4), some (vI a5), some (vR (16 + 58 + 2 * (Int.toNat a1)) 16 0), some (vR (16 + 58 + 2 * (Int.toNat a3)) 16 0)]) (st' := [vI (x2.2 (16 + 58 + 2 * (Int.toNat a1)) 1)]) (M1 := x2.2) rfl ?_
      refine Z_if k_X10_pour rfl 52 rfl (fun hc => ?_) (fun hc => ?_)
      · replace h := of_pos hc h
        refine Z_mask [true, false, false, false, false, false, false, false] (lo0 := [some (vR 15 20 0), none, none, none, none, none, none, none]) rfl ?_
        exact e_X10_pour_52 d x2.2 _ _ h
      · replace h := of_neg hc h
        refine Z_blk k_X10_pour 2 (pc' := 49) (lo' := [some (vR 15 20 0), some (vI a1), some (vI a2), some (vI a3), some (vI a4), some (vI a5), some (vR (16 + 58 + 2 * (Int.toNat a1)) 16 0), some (vR (16 + 58 + 2 * (Int.toNat a3)) 16 0)]) (st' := [vI (x2.2 (16 + 58 + 2 * (Int.toNat a3)) 1)]) (M1 := x2.2) rfl ?_
        refine Z_if k_X10_pour rfl 58 rfl (fun hc => ?_) (fun hc => ?_)
        · replace h := of_pos hc h
          refine Z_blk k_X10_pour 4 (pc' := 68) (lo' := [some (vR 15 20 0), some (vI a1), some (vI a2), some (vI a3), some (vI a4), some (vI a5), some (vR (16 + 58 + 2 * (Int.toNat a1)) 16 0), some (vR (16 + 58 + 2 * (Int.toNat a3)) 16 0)]) (st' := [vI (x2.2 (16 + 58 + 2 * (Int.toNat a3)) 2), vI (x2.2 (16 + 58 + 2 * (Int.toNat a1)) 2)]) (M1 := x2.2) rfl ?_
          refine Z_icmp k_X10_pour rfl 78 rfl (fun hc => ?_) (fun hc => ?_)
          · replace h := of_pos hc h
            refine Z_blk k_X10_pour 1 (pc' := 80) (lo' := [some (vR 15 20 0), some (vI a1), some (vI a2), some (vI a3), some (vI a4), some (vI a5), some (vR (16 + 58 + 2 * (Int.toNat a1)) 16 0), some (vR (16 + 58 + 2 * (Int.toNat a3)) 16 0)]) (st' := [vI a5]) (M1 := x2.2) rfl ?_
            refine Z_if k_X10_pour rfl 90 rfl (fun hc => ?_) (fun hc => ?_)
            · replace h := of_pos hc h
              refine Z_blk k_X10_pour 3 (pc' := 95) (lo' := [some (vR 15 20 0), some (vI a1), some (vI a2), some (vI a3), some (vI a4), some (vI a5), some (vR (16 + 58 + 2 * (Int.toNat a1)) 16 0), some (vR (16 + 58 + 2 * (Int.toNat a3)) 16 0)]) (st' := [vI a5, vI a2, vR (16 + 58 + 2 * (Int.toNat a1)) 16 0]) (M1 := x2.2) rfl ?_
              obtain ⟨x5, hx5, h⟩ := Option.bind_eq_some_iff.mp h
              refine Z_callV8 k_X10_pour k_X6_hasRow rfl rfl (l_10_144) (ci := 6) rfl [vI a2, vI a5] [] rfl rfl (Nat.le_of_ble_eq_true rfl) (Nat.le_of_ble_eq_true rfl) (e_X6_hasRow (d + 0) (16 + 58 + 2 * (Int.toNat a1)) a2 a5 x2.2 _ _ hx5) ?_
              refine Z_if k_X10_pour rfl 113 rfl (fun hc => ?_) (fun hc => ?_)
              · replace h := of_pos hc h
                refine Z_mask [true, false, false, false, false, false, false, false] (lo0 := [some (vR 15 20 0), none, none, none, none, none, none, none]) rfl ?_
                exact e_X10_pour_113 d x5.2 _ _ h
              · replace h := of_neg hc h
                refine Z_blk k_X10_pour 3 (pc' := 107) (lo' := [some (vR 15 20 0), some (vI a1), some (vI a2), some (vI a3), some (vI a4), some (vI a5), some (vR (16 + 58 + 2 * (Int.toNat a1)) 16 0), some (vR (16 + 58 + 2 * (Int.toNat a3)) 16 0)]) (st' := [vI a5, vI a4, vR (16 + 58 + 2 * (Int.toNat a3)) 16 0]) (M1 := x5.2) rfl ?_
                obtain ⟨x6, hx6, h⟩ := Option.bind_eq_some_iff.mp h
                refine Z_callV8 k_X10_pour k_X6_hasRow rfl rfl (l_10_144) (ci := 6) rfl [vI a4, vI a5] [] rfl rfl (Nat.le_of_ble_eq_true rfl) (Nat.le_of_ble_eq_true rfl) (e_X6_hasRow (d + 0) (16 + 58 + 2 * (Int.toNat a3)) a4 a5 x5.2 _ _ hx6) ?_
                refine Z_if k_X10_pour rfl 119 rfl (fun hc => ?_) (fun hc => ?_)
                · replace h := of_pos hc h
                  refine Z_blk k_X10_pour 7 (pc' := 134) (lo' := [some (vR 15 20 0), some (vI a1), some (vI a2), some (vI a3), some (vI a4), some (vI a5), some (vR (16 + 58 + 2 * (Int.toNat a1)) 16 0), some (vR (16 + 58 + 2 * (Int.toNat a3)) 16 0)]) (st' := [vI a5, vI a4, vR (16 + 58 + 2 * (Int.toNat a3) + 1) 1 60, vI a2, vR (16 + 58 + 2 * (Int.toNat a1) + 1) 1 60]) (M1 := x6.2) rfl ?_
                  obtain ⟨hc7, h⟩ := of_grd h
                  obtain ⟨M8, eM8, h⟩ := of_zlet h
                  refine Z_one k_X10_pour rfl (pc' := 137) (lo' := [some (vR 15 20 0), some (vI a1), some (vI a2), some (vI a3), some (vI a4), some (vI a5), some (vR (16 + 58 + 2 * (Int.toNat a1)) 16 0), some (vR (16 + 58 + 2 * (Int.toNat a3)) 16 0)]) (st' := []) (M1 := M8) (by rw [eM8]; exact if_pos hc7) ?_
                  refine Z_blk k_X10_pour 1 (pc' := 138) (lo' := [some (vR 15 20 0), some (vI a1), some (vI a2), some (vI a3), some (vI a4), some (vI a5), some (vR (16 + 58 + 2 * (Int.toNat a1)) 16 0), some (vR (16 + 58 + 2 * (Int.toNat a3)) 16 0)]) (st' := [vR 15 20 0]) (M1 := M8) rfl ?_
                  obtain ⟨x9, hx9, h⟩ := Option.bind_eq_some_iff.mp h
                  refine Z_callV8 k_X10_pour k_X10_agree rfl rfl (l_10_118) (ci := 10) rfl [] [] rfl rfl (Nat.le_of_ble_eq_true rfl) (Nat.le_of_ble_eq_true rfl) (e_X10_agree (d + 0) M8 _ _ hx9) ?_
                  obtain ⟨hc10, h⟩ := of_grd h
                  cases h
                  exact Z_ret ⟨Or.inr ⟨rfl, hc10⟩, _, rfl⟩ rfl
                · replace h := of_neg hc h
                  refine Z_mask [true, false, false, false, false, false, false, false] (lo0 := [some (vR 15 20 0), none, none, none, none, none, none, none]) rfl ?_
                  exact e_X10_pour_113 d x6.2 _ _ h
            · replace h := of_neg hc h
              refine Z_blk k_X10_pour 2 (pc' := 86) (lo' := [some (vR 15 20 0), some (vI a1), some (vI a2), some (vI a3), some (vI a4), some (vI a5), some (vR (16 + 58 + 2 * (Int.toNat a1)) 16 0), some (vR (16 + 58 + 2 * (Int.toNat a3)) 16 0)]) (st' := [vI 6, vR 15 20 0]) (M1 := x2.2) rfl ?_
              obtain ⟨x11, hx11, h⟩ := Option.bind_eq_some_iff.mp h
              refine Z_callV8 k_X10_pour k_X10_refuse rfl rfl (l_10_111) (ci := 10) rfl [vI 6] [] rfl rfl (Nat.le_of_ble_eq_true rfl) (Nat.le_of_ble_eq_true rfl) (e_X10_refuse (d + 0) 6 x2.2 _ _ hx11) ?_
              obtain ⟨hc12, h⟩ := of_grd h
              cases h
              exact Z_ret ⟨Or.inr ⟨rfl, hc12⟩, _, rfl⟩ rfl
          · replace h := of_neg hc h
            refine Z_blk k_X10_pour 2 (pc' := 74) (lo' := [some (vR 15 20 0), some (vI a1), some (vI a2), some (vI a3), some (vI a4), some (vI a5), some (vR (16 + 58 + 2 * (Int.toNat a1)) 16 0), some (vR (16 + 58 + 2 * (Int.toNat a3)) 16 0)]) (st' := [vI 11, vR 15 20 0]) (M1 := x2.2) rfl ?_
            obtain ⟨x13, hx13, h⟩ := Option.bind_eq_some_iff.mp h
            refine Z_callV8 k_X10_pour k_X10_refuse rfl rfl (l_10_111) (ci := 10) rfl [vI 11] [] rfl rfl (Nat.le_of_ble_eq_true rfl) (Nat.le_of_ble_eq_true rfl) (e_X10_refuse (d + 0) 11 x2.2 _ _ hx13) ?_
            obtain ⟨hc14, h⟩ := of_grd h
            cases h
            exact Z_ret ⟨Or.inr ⟨rfl, hc14⟩, _, rfl⟩ rfl
        · replace h := of_neg hc h
          refine Z_mask [true, false, false, false, false, false, false, false] (lo0 := [some (vR 15 20 0), none, none, none, none, none, none, none]) rfl ?_
          exact e_X10_pour_52 d x2.2 _ _ h
    · replace h := of_neg hc h
      refine Z_mask [true, false, false, false, false, false, false, false] (lo0 := [some (vR 15 20 0), none, none, none, none, none, none, none]) rfl ?_
      exact e_X10_pour_14 d x2.2 _ _ h
theorem l_10_161 : zhas 3067 (Jvm.Cond.methodLink "BellPullHouse" 161 yX5_feedInt) = true := by decide +kernel
def f_X10_feed (a1 : Int) (a2 : Int) (a3 : Int) (a4 : Int) (a5 : Int) (M : AM) : Option (Int × AM) := if o_add (M 20 7) 20 ≤ 900 then ((f_X5_feedInt a1 M).bind fun x1 => (f_X5_feedInt a2 x1).bind fun x2 => (f_X5_feedInt a3 x2).bind fun x3 => (f_X5_feedInt a4 x3).bind fun x4 => (f_X5_feedInt a5 x4).bind fun x5 => some (x5 20 7, x5)) else some ((-1), M)
theorem e_X10_feed {Y : List (Nat × Nat)} (d : Nat) (a1 : Int) (a2 : Int) (a3 : Int) (a4 : Int) (a5 : Int) (M : AM) (x : Int) (N : AM) (h : f_X10_feed a1 a2 a3 a4 a5 M = some (x, N)) : Ev Y (d + 1) m_X10_feed 0 [some (vR 15 20 0), some (vI a1), some (vI a2), some (vI a3), some (vI a4), some (vI a5)] [] M (some (vI x)) N := by
  unfold f_X10_feed at h
  refine Z_blk k_X10_feed 6 (pc' := 13) (lo' := [some (vR 15 20 0), some (vI a1), some (vI a2), some (vI a3), some (vI a4), some (vI a5)]) (st' := [vI 900, vI (o_add (M 20 7) 20)]) (M1 := M) rfl ?_
  refine Z_icmp k_X10_feed rfl 18 rfl (fun hc => ?_) (fun hc => ?_)
  · replace h := of_pos hc h
    refine Z_blk k_X10_feed 3 (pc' := 23) (lo' := [some (vR 15 20 0), some (vI a1), some (vI a2), some (vI a3), some (vI a4), some (vI a5)]) (st' := [vI a1, vR 20 15 0]) (M1 := M) rfl ?_
    obtain ⟨x1, hx1, h⟩ := Option.bind_eq_some_iff.mp h
    refine Z_callV8 k_X10_feed k_X5_feedInt rfl rfl (l_10_161) (ci := 5) rfl [vI a1] [] rfl rfl (Nat.le_of_ble_eq_true rfl) (Nat.le_of_ble_eq_true rfl) (e_X5_feedInt (d + 0) a1 M _ hx1) ?_
    refine Z_blk k_X10_feed 3 (pc' := 31) (lo' := [some (vR 15 20 0), some (vI a1), some (vI a2), some (vI a3), some (vI a4), some (vI a5)]) (st' := [vI a2, vR 20 15 0]) (M1 := x1) rfl ?_
    obtain ⟨x2, hx2, h⟩ := Option.bind_eq_some_iff.mp h
    refine Z_callV8 k_X10_feed k_X5_feedInt rfl rfl (l_10_161) (ci := 5) rfl [vI a2] [] rfl rfl (Nat.le_of_ble_eq_true rfl) (Nat.le_of_ble_eq_true rfl) (e_X5_feedInt (d + 0) a2 x1 _ hx2) ?_
    refine Z_blk k_X10_feed 3 (pc' := 39) (lo' := [some (vR 15 20 0), some (vI a1), some (vI a2), some (vI a3), some (vI a4), some (vI a5)]) (st' := [vI a3, vR 20 15 0]) (M1 := x2) rfl ?_
    obtain ⟨x3, hx3, h⟩ := Option.bind_eq_some_iff.mp h
    refine Z_callV8 k_X10_feed k_X5_feedInt rfl rfl (l_10_161) (ci := 5) rfl [vI a3] [] rfl rfl (Nat.le_of_ble_eq_true rfl) (Nat.le_of_ble_eq_true rfl) (e_X5_feedInt (d + 0) a3 x2 _ hx3) ?_
    refine Z_blk k_X10_feed 3 (pc' := 48) (lo' := [some (vR 15 20 0), some (vI a1), some (vI a2), some (vI a3), some (vI a4), some (vI a5)]) (st' := [vI a4, vR 20 15 0]) (M1 := x3) rfl ?_
    obtain ⟨x4, hx4, h⟩ := Option.bind_eq_some_iff.mp h
    refine Z_callV8 k_X10_feed k_X5_feedInt rfl rfl (l_10_161) (ci := 5) rfl [vI a4] [] rfl rfl (Nat.le_of_ble_eq_true rfl) (Nat.le_of_ble_eq_true rfl) (e_X5_feedInt (d + 0) a4 x3 _ hx4) ?_
    refine Z_blk k_X10_feed 3 (pc' := 57) (lo' := [some (vR 15 20 0), some (vI a1), some (vI a2), some (vI a3), some (vI a4), some (vI a5)]) (st' := [vI a5, vR 20 15 0]) (M1 := x4) rfl ?_
    obtain ⟨x5, hx5, h⟩ := Option.bind_eq_some_iff.mp h
    refine Z_callV8 k_X10_feed k_X5_feedInt rfl rfl (l_10_161) (ci := 5) rfl [vI a5] [] rfl rfl (Nat.le_of_ble_eq_true rfl) (Nat.le_of_ble_eq_true rfl) (e_X5_feedInt (d + 0) a5 x4 _ hx5) ?_
    refine Z_blk k_X10_feed 3 (pc' := 67) (lo' := [some (vR 15 20 0), some (vI a1), some (vI a2), some (vI a3), some (vI a4), some (vI a5)]) (st' := [vI (x5 20 7)]) (M1 := x5) rfl ?_
    cases h
    exact Z_ret ⟨Or.inl rfl, _, rfl⟩ rfl
  · replace h := of_neg hc h
    refine Z_blk k_X10_feed 1 (pc' := 17) (lo' := [some (vR 15 20 0), some (vI a1), some (vI a2), some (vI a3), some (vI a4), some (vI a5)]) (st' := [vI (-1)]) (M1 := M) rfl ?_
    cases h
    exact Z_ret ⟨Or.inl rfl, _, rfl⟩ rfl
def f_X10_answer (a1 : Int) (M : AM) : Option (Int × AM) := zlet (am_upd M 15 0 0) fun M1 => some (a1, M1)
theorem e_X10_answer {Y : List (Nat × Nat)} (d : Nat) (a1 : Int) (M : AM) (x : Int) (N : AM) (h : f_X10_answer a1 M = some (x, N)) : Ev Y (d + 0) m_X10_answer 0 [some (vR 15 20 0), some (vI a1)] [] M (some (vI x)) N := by
  unfold f_X10_answer at h
  obtain ⟨M1, eM1, h⟩ := of_zlet h
  refine Z_blk k_X10_answer 3 (pc' := 5) (lo' := [some (vR 15 20 0), some (vI a1)]) (st' := []) (M1 := M1) (by rw [eM1]; rfl) ?_
  refine Z_blk k_X10_answer 1 (pc' := 6) (lo' := [some (vR 15 20 0), some (vI a1)]) (st' := [vI a1]) (M1 := M1) rfl ?_
  cases h
  exact Z_ret ⟨Or.inl rfl, _, rfl⟩ rfl
def f_X10_keepFault (M : AM) : Option (AM) := zlet (am_upd M 20 7 0) fun M1 => zlet (am_upd M1 15 4 (M1 20 5)) fun M2 => zlet (am_upd M2 15 5 (M2 20 6)) fun M3 => some M3
theorem e_X10_keepFault {Y : List (Nat × Nat)} (d : Nat) (M : AM) (N : AM) (h : f_X10_keepFault M = some N) : Ev Y (d + 0) m_X10_keepFault 0 [some (vR 15 20 0)] [] M none N := by
  unfold f_X10_keepFault at h
  obtain ⟨M1, eM1, h⟩ := of_zlet h
  refine Z_blk k_X10_keepFault 4 (pc' := 8) (lo' := [some (vR 15 20 0)]) (st' := []) (M1 := M1) (by rw [eM1]; rfl) ?_
  obtain ⟨M2, eM2, h⟩ := of_zlet h
  refine Z_blk k_X10_keepFault 5 (pc' := 19) (lo' := [some (vR 15 20 0)]) (st' := []) (M1 := M2) (by rw [eM2]; rfl) ?_
  obtain ⟨M3, eM3, h⟩ := of_zlet h
  refine Z_blk k_X10_keepFault 5 (pc' := 30) (lo' := [some (vR 15 20 0)]) (st' := []) (M1 := M3) (by rw [eM3]; rfl) ?_
  cases h
  exact Z_ret ⟨rfl, _, rfl⟩ rfl
theorem l_10_165 : zhas 3075 (Jvm.Cond.methodLink "BellPullHouse" 165 yX2_readHouse) = true := by decide +kernel
theorem l_10_171 : zhas 3181 (Jvm.Cond.methodLink "BellPullHouse" 171 yX10_keepFault) = true := by decide +kernel
theorem l_10_174 : zhas 3185 (Jvm.Cond.methodLink "BellPullHouse" 174 yX1_copyFrom) = true := by decide +kernel
theorem l_10_178 : zhas 3190 (Jvm.Cond.methodLink "BellPullHouse" 178 yX8_forget) = true := by decide +kernel
theorem l_10_184 : zhas 3194 (Jvm.Cond.methodLink "BellPullHouse" 184 yX10_answer) = true := by decide +kernel
def f_X10_house_15 (M : AM) : Option (Int × AM) := (f_X10_fail 5 M).bind fun x1 => some (x1.1, x1.2)
theorem e_X10_house_15 {Y : List (Nat × Nat)} (d : Nat) (M : AM) (x : Int) (N : AM) (h : f_X10_house_15 M = some (x, N)) : Ev Y (d + 7) m_X10_house 15 [some (vR 15 20 0), none, none] [] M (some (vI x)) N := by
  unfold f_X10_house_15 at h
  refine Z_blk k_X10_house 2 (pc' := 17) (lo' := [some (vR 15 20 0), none, none]) (st' := [vI 5, vR 15 20 0]) (M1 := M) rfl ?_
  obtain ⟨x1, hx1, h⟩ := Option.bind_eq_some_iff.mp h
  refine Z_callV8 k_X10_house k_X10_fail rfl rfl (l_10_130) (ci := 10) rfl [vI 5] [] rfl rfl (Nat.le_of_ble_eq_true rfl) (Nat.le_of_ble_eq_true rfl) (e_X10_fail (d + 6) 5 M _ _ hx1) ?_
  cases h
  exact Z_ret ⟨Or.inl rfl, _, rfl⟩ rfl
def f_X10_house (a1 : Int) (M : AM) : Option (Int × AM) := if a1 < 0 then f_X10_house_15 M else (if a1 ≤ M 20 7 then ((f_X2_readHouse a1 M).bind fun x1 => (f_X10_keepFault x1.2).bind fun x2 => if ¬ x1.1 = 0 then ((f_X1_copyFrom 23 34 x2).bind fun x3 => (f_X8_forget 45 x3).bind fun x4 => (f_X10_answer (x4 23 4) x4).bind fun x5 => some (x5.1, x5.2)) else ((f_X10_fail 10 x2).bind fun x6 => some (x6.1, x6.2))) else f_X10_house_15 M)
theorem e_X10_house {Y : List (Nat × Nat)} (d : Nat) (a1 : Int) (M : AM) (x : Int) (N : AM) (h : f_X10_house a1 M = some (x, N)) : Ev Y (d + 7) m_X10_house 0 [some (vR 15 20 0), some (vI a1), none] [] M (some (vI x)) N := by
  unfold f_X10_house at h
  refine Z_blk k_X10_house 1 (pc' := 1) (lo' := [some (vR 15 20 0), some (vI a1), none]) (st' := [vI a1]) (M1 := M) rfl ?_
  refine Z_if k_X10_house rfl 15 rfl (fun hc => ?_) (fun hc => ?_)
  · replace h := of_pos hc h
    refine Z_mask [true, false, false] (lo0 := [some (vR 15 20 0), none, none]) rfl ?_
    exact e_X10_house_15 d M _ _ h
  · replace h := of_neg hc h
    refine Z_blk k_X10_house 4 (pc' := 12) (lo' := [some (vR 15 20 0), some (vI a1), none]) (st' := [vI (M 20 7), vI a1]) (M1 := M) rfl ?_
    refine Z_icmp k_X10_house rfl 21 rfl (fun hc => ?_) (fun hc => ?_)
    · replace h := of_pos hc h
      refine Z_blk k_X10_house 5 (pc' := 30) (lo' := [some (vR 15 20 0), some (vI a1), none]) (st' := [vI a1, vR 34 11 0, vR 20 15 0]) (M1 := M) rfl ?_
      obtain ⟨x1, hx1, h⟩ := Option.bind_eq_some_iff.mp h
      refine Z_callS8 k_X10_house k_X2_readHouse rfl rfl (l_10_165) [vR 20 15 0, vR 34 11 0, vI a1] [] rfl rfl (Nat.le_of_ble_eq_true rfl) (Nat.le_of_ble_eq_true rfl) (e_X2_readHouse (d + 0) a1 M _ _ hx1) ?_
      refine Z_blk k_X10_house 2 (pc' := 35) (lo' := [some (vR 15 20 0), some (vI a1), some (vI x1.1)]) (st' := [vR 15 20 0]) (M1 := x1.2) rfl ?_
      obtain ⟨x2, hx2, h⟩ := Option.bind_eq_some_iff.mp h
      refine Z_callV8 k_X10_house k_X10_keepFault rfl rfl (l_10_171) (ci := 10) rfl [] [] rfl rfl (Nat.le_of_ble_eq_true rfl) (Nat.le_of_ble_eq_true rfl) (e_X10_keepFault (d + 6) x1.2 _ hx2) ?_
      refine Z_blk k_X10_house 1 (pc' := 39) (lo' := [some (vR 15 20 0), some (vI a1), some (vI x1.1)]) (st' := [vI x1.1]) (M1 := x2) rfl ?_
      refine Z_if k_X10_house rfl 49 rfl (fun hc => ?_) (fun hc => ?_)
      · replace h := of_pos hc h
        refine Z_blk k_X10_house 4 (pc' := 57) (lo' := [some (vR 15 20 0), some (vI a1), some (vI x1.1)]) (st' := [vR 34 11 0, vR 23 11 0]) (M1 := x2) rfl ?_
        obtain ⟨x3, hx3, h⟩ := Option.bind_eq_some_iff.mp h
        refine Z_callV8 k_X10_house k_X1_copyFrom rfl rfl (l_10_174) (ci := 1) rfl [vR 34 11 0] [] rfl rfl (Nat.le_of_ble_eq_true rfl) (Nat.le_of_ble_eq_true rfl) (e_X1_copyFrom (d + 6) 23 34 x2 _ hx3) ?_
        refine Z_blk k_X10_house 2 (pc' := 64) (lo' := [some (vR 15 20 0), some (vI a1), some (vI x1.1)]) (st' := [vR 45 18 0]) (M1 := x3) rfl ?_
        obtain ⟨x4, hx4, h⟩ := Option.bind_eq_some_iff.mp h
        refine Z_callV8 k_X10_house k_X8_forget rfl rfl (l_10_178) (ci := 8) rfl [] [] rfl rfl (Nat.le_of_ble_eq_true rfl) (Nat.le_of_ble_eq_true rfl) (e_X8_forget (d + 6) 45 x3 _ hx4) ?_
        refine Z_blk k_X10_house 4 (pc' := 75) (lo' := [some (vR 15 20 0), some (vI a1), some (vI x1.1)]) (st' := [vI (x4 23 4), vR 15 20 0]) (M1 := x4) rfl ?_
        obtain ⟨x5, hx5, h⟩ := Option.bind_eq_some_iff.mp h
        refine Z_callV8 k_X10_house k_X10_answer rfl rfl (l_10_184) (ci := 10) rfl [vI (x4 23 4)] [] rfl rfl (Nat.le_of_ble_eq_true rfl) (Nat.le_of_ble_eq_true rfl) (e_X10_answer (d + 6) (x4 23 4) x4 _ _ hx5) ?_
        cases h
        exact Z_ret ⟨Or.inl rfl, _, rfl⟩ rfl
      · replace h := of_neg hc h
        refine Z_blk k_X10_house 2 (pc' := 45) (lo' := [some (vR 15 20 0), some (vI a1), some (vI x1.1)]) (st' := [vI 10, vR 15 20 0]) (M1 := x2) rfl ?_
        obtain ⟨x6, hx6, h⟩ := Option.bind_eq_some_iff.mp h
        refine Z_callV8 k_X10_house k_X10_fail rfl rfl (l_10_130) (ci := 10) rfl [vI 10] [] rfl rfl (Nat.le_of_ble_eq_true rfl) (Nat.le_of_ble_eq_true rfl) (e_X10_fail (d + 6) 10 x2 _ _ hx6) ?_
        cases h
        exact Z_ret ⟨Or.inl rfl, _, rfl⟩ rfl
    · replace h := of_neg hc h
      refine Z_mask [true, false, false] (lo0 := [some (vR 15 20 0), none, none]) rfl ?_
      exact e_X10_house_15 d M _ _ h
theorem l_10_187 : zhas 3202 (Jvm.Cond.methodLink "BellPullHouse" 187 yX9_readYears) = true := by decide +kernel
theorem l_10_193 : zhas 4011 (Jvm.Cond.methodLink "BellPullHouse" 193 yX8_copyFrom) = true := by decide +kernel
def f_X10_years_22 (M : AM) : Option (Int × AM) := (f_X10_fail 5 M).bind fun x1 => some (x1.1, x1.2)
theorem e_X10_years_22 {Y : List (Nat × Nat)} (d : Nat) (M : AM) (x : Int) (N : AM) (h : f_X10_years_22 M = some (x, N)) : Ev Y (d + 7) m_X10_years 22 [some (vR 15 20 0), none, none] [] M (some (vI x)) N := by
  unfold f_X10_years_22 at h
  refine Z_blk k_X10_years 2 (pc' := 24) (lo' := [some (vR 15 20 0), none, none]) (st' := [vI 5, vR 15 20 0]) (M1 := M) rfl ?_
  obtain ⟨x1, hx1, h⟩ := Option.bind_eq_some_iff.mp h
  refine Z_callV8 k_X10_years k_X10_fail rfl rfl (l_10_130) (ci := 10) rfl [vI 5] [] rfl rfl (Nat.le_of_ble_eq_true rfl) (Nat.le_of_ble_eq_true rfl) (e_X10_fail (d + 6) 5 M _ _ hx1) ?_
  cases h
  exact Z_ret ⟨Or.inl rfl, _, rfl⟩ rfl
def f_X10_years (a1 : Int) (M : AM) : Option (Int × AM) := if a1 < 0 then f_X10_years_22 M else (if M 20 7 < a1 then f_X10_years_22 M else (if a1 ≤ 300 then ((f_X9_readYears a1 M).bind fun x1 => (f_X10_keepFault x1.2).bind fun x2 => if ¬ x1.1 = 0 then ((f_X8_copyFrom 45 53 x2).bind fun x3 => (f_X10_answer (x3 45 1) x3).bind fun x4 => some (x4.1, x4.2)) else ((f_X10_fail 10 x2).bind fun x5 => some (x5.1, x5.2))) else f_X10_years_22 M))
theorem e_X10_years {Y : List (Nat × Nat)} (d : Nat) (a1 : Int) (M : AM) (x : Int) (N : AM) (h : f_X10_years a1 M = some (x, N)) : Ev Y (d + 7) m_X10_years 0 [some (vR 15 20 0), some (vI a1), none] [] M (some (vI x)) N := by
  unfold f_X10_years at h
  refine Z_blk k_X10_years 1 (pc' := 1) (lo' := [some (vR 15 20 0), some (vI a1), none]) (st' := [vI a1]) (M1 := M) rfl ?_
  refine Z_if k_X10_years rfl 22 rfl (fun hc => ?_) (fun hc => ?_)
  · replace h := of_pos hc h
    refine Z_mask [true, false, false] (lo0 := [some (vR 15 20 0), none, none]) rfl ?_
    exact e_X10_years_22 d M _ _ h
  · replace h := of_neg hc h
    refine Z_blk k_X10_years 4 (pc' := 12) (lo' := [some (vR 15 20 0), some (vI a1), none]) (st' := [vI (M 20 7), vI a1]) (M1 := M) rfl ?_
    refine Z_icmp k_X10_years rfl 22 rfl (fun hc => ?_) (fun hc => ?_)
    · replace h := of_pos hc h
      refine Z_mask [true, false, false] (lo0 := [some (vR 15 20 0), none, none]) rfl ?_
      exact e_X10_years_22 d M _ _ h
    · replace h := of_neg hc h
      refine Z_blk k_X10_years 2 (pc' := 19) (lo' := [some (vR 15 20 0), some (vI a1), none]) (st' := [vI 300, vI a1]) (M1 := M) rfl ?_
      refine Z_icmp k_X10_years rfl 28 rfl (fun hc => ?_) (fun hc => ?_)
      · replace h := of_pos hc h
        refine Z_blk k_X10_years 7 (pc' := 41) (lo' := [some (vR 15 20 0), some (vI a1), none]) (st' := [vI a1, vR 53 18 0, vR 23 11 0, vR 20 15 0]) (M1 := M) rfl ?_
        obtain ⟨x1, hx1, h⟩ := Option.bind_eq_some_iff.mp h
        refine Z_callS8 k_X10_years k_X9_readYears rfl rfl (l_10_187) [vR 20 15 0, vR 23 11 0, vR 53 18 0, vI a1] [] rfl rfl (Nat.le_of_ble_eq_true rfl) (Nat.le_of_ble_eq_true rfl) (e_X9_readYears (d + 0) a1 M _ _ hx1) ?_
        refine Z_blk k_X10_years 2 (pc' := 46) (lo' := [some (vR 15 20 0), some (vI a1), some (vI x1.1)]) (st' := [vR 15 20 0]) (M1 := x1.2) rfl ?_
        obtain ⟨x2, hx2, h⟩ := Option.bind_eq_some_iff.mp h
        refine Z_callV8 k_X10_years k_X10_keepFault rfl rfl (l_10_171) (ci := 10) rfl [] [] rfl rfl (Nat.le_of_ble_eq_true rfl) (Nat.le_of_ble_eq_true rfl) (e_X10_keepFault (d + 6) x1.2 _ hx2) ?_
        refine Z_blk k_X10_years 1 (pc' := 50) (lo' := [some (vR 15 20 0), some (vI a1), some (vI x1.1)]) (st' := [vI x1.1]) (M1 := x2) rfl ?_
        refine Z_if k_X10_years rfl 60 rfl (fun hc => ?_) (fun hc => ?_)
        · replace h := of_pos hc h
          refine Z_blk k_X10_years 4 (pc' := 68) (lo' := [some (vR 15 20 0), some (vI a1), some (vI x1.1)]) (st' := [vR 53 18 0, vR 45 18 0]) (M1 := x2) rfl ?_
          obtain ⟨x3, hx3, h⟩ := Option.bind_eq_some_iff.mp h
          refine Z_callV8 k_X10_years k_X8_copyFrom rfl rfl (l_10_193) (ci := 8) rfl [vR 53 18 0] [] rfl rfl (Nat.le_of_ble_eq_true rfl) (Nat.le_of_ble_eq_true rfl) (e_X8_copyFrom (d + 6) 45 53 x2 _ hx3) ?_
          refine Z_blk k_X10_years 4 (pc' := 79) (lo' := [some (vR 15 20 0), some (vI a1), some (vI x1.1)]) (st' := [vI (x3 45 1), vR 15 20 0]) (M1 := x3) rfl ?_
          obtain ⟨x4, hx4, h⟩ := Option.bind_eq_some_iff.mp h
          refine Z_callV8 k_X10_years k_X10_answer rfl rfl (l_10_184) (ci := 10) rfl [vI (x3 45 1)] [] rfl rfl (Nat.le_of_ble_eq_true rfl) (Nat.le_of_ble_eq_true rfl) (e_X10_answer (d + 6) (x3 45 1) x3 _ _ hx4) ?_
          cases h
          exact Z_ret ⟨Or.inl rfl, _, rfl⟩ rfl
        · replace h := of_neg hc h
          refine Z_blk k_X10_years 2 (pc' := 56) (lo' := [some (vR 15 20 0), some (vI a1), some (vI x1.1)]) (st' := [vI 10, vR 15 20 0]) (M1 := x2) rfl ?_
          obtain ⟨x5, hx5, h⟩ := Option.bind_eq_some_iff.mp h
          refine Z_callV8 k_X10_years k_X10_fail rfl rfl (l_10_130) (ci := 10) rfl [vI 10] [] rfl rfl (Nat.le_of_ble_eq_true rfl) (Nat.le_of_ble_eq_true rfl) (e_X10_fail (d + 6) 10 x2 _ _ hx5) ?_
          cases h
          exact Z_ret ⟨Or.inl rfl, _, rfl⟩ rfl
      · replace h := of_neg hc h
        refine Z_mask [true, false, false] (lo0 := [some (vR 15 20 0), none, none]) rfl ?_
        exact e_X10_years_22 d M _ _ h
def f_X10_fault (a1 : Int) (M : AM) : Option (Int × AM) := if a1 = 0 then some (M 15 4, M) else (if a1 = 1 then some (M 15 5, M) else (some ((-1), M)))
theorem e_X10_fault {Y : List (Nat × Nat)} (d : Nat) (a1 : Int) (M : AM) (x : Int) (N : AM) (h : f_X10_fault a1 M = some (x, N)) : Ev Y (d + 0) m_X10_fault 0 [some (vR 15 20 0), some (vI a1)] [] M (some (vI x)) N := by
  unfold f_X10_fault at h
  refine Z_blk k_X10_fault 1 (pc' := 1) (lo' := [some (vR 15 20 0), some (vI a1)]) (st' := [vI a1]) (M1 := M) rfl ?_
  by_cases hs0 : a1 = 0
  · replace h := of_pos hs0 h
    refine Z_look k_X10_fault rfl 28 (off := 27) (by first | (rw [hs0]; done) | (rw [hs0]; rfl)) rfl ?_
    refine Z_blk k_X10_fault 2 (pc' := 32) (lo' := [some (vR 15 20 0), some (vI a1)]) (st' := [vI (M 15 4)]) (M1 := M) rfl ?_
    cases h
    exact Z_ret ⟨Or.inl rfl, _, rfl⟩ rfl
  · replace h := of_neg hs0 h
    by_cases hs1 : a1 = 1
    · replace h := of_pos hs1 h
      refine Z_look k_X10_fault rfl 33 (off := 32) (by first | (rw [hs1]; done) | (rw [hs1]; rfl)) rfl ?_
      refine Z_blk k_X10_fault 2 (pc' := 37) (lo' := [some (vR 15 20 0), some (vI a1)]) (st' := [vI (M 15 5)]) (M1 := M) rfl ?_
      cases h
      exact Z_ret ⟨Or.inl rfl, _, rfl⟩ rfl
    · replace h := of_neg hs1 h
      refine Z_look k_X10_fault rfl 38 (off := 37) (by have n0 : ¬ (0 : Int) = a1 := fun e => hs0 e.symm; have n1 : ¬ (1 : Int) = a1 := fun e => hs1 e.symm; simp [Op.lookupswitch.offset, n0, n1]) rfl ?_
      refine Z_blk k_X10_fault 1 (pc' := 39) (lo' := [some (vR 15 20 0), some (vI a1)]) (st' := [vI (-1)]) (M1 := M) rfl ?_
      cases h
      exact Z_ret ⟨Or.inl rfl, _, rfl⟩ rfl
theorem l_10_225 : zhas 4024 (Jvm.Cond.methodLink "BellPullHouse" 225 yX1_rungSet) = true := by decide +kernel
theorem l_10_229 : zhas 4048 (Jvm.Cond.methodLink "BellPullHouse" 229 yX1_loveTogether) = true := by decide +kernel
def f_X10_many_148 (s1 : Int) (M : AM) : Option (Int × AM) := (f_X10_answer s1 M).bind fun x1 => some (x1.1, x1.2)
theorem e_X10_many_148 {Y : List (Nat × Nat)} (d : Nat) (s1 : Int) (M : AM) (x : Int) (N : AM) (h : f_X10_many_148 s1 M = some (x, N)) : Ev Y (d + 5) m_X10_many 148 [none, none] [vI s1, vR 15 20 0] M (some (vI x)) N := by
  unfold f_X10_many_148 at h
  obtain ⟨x1, hx1, h⟩ := Option.bind_eq_some_iff.mp h
  refine Z_callV8 k_X10_many k_X10_answer rfl rfl (l_10_184) (ci := 10) rfl [vI s1] [] rfl rfl (Nat.le_of_ble_eq_true rfl) (Nat.le_of_ble_eq_true rfl) (e_X10_answer (d + 4) s1 M _ _ hx1) ?_
  cases h
  exact Z_ret ⟨Or.inl rfl, _, rfl⟩ rfl
def f_X10_many (a1 : Int) (M : AM) : Option (Int × AM) := if a1 = 0 then ((f_X10_answer (M 23 2) M).bind fun x1 => some (x1.1, x1.2)) else (if a1 = 1 then ((f_X10_answer (M 23 3) M).bind fun x2 => some (x2.1, x2.2)) else (if a1 = 2 then ((f_X10_answer (M 23 4) M).bind fun x3 => some (x3.1, x3.2)) else (if a1 = 3 then ((f_X10_answer (M 23 0) M).bind fun x4 => some (x4.1, x4.2)) else (if a1 = 4 then ((f_X10_answer (M 23 1) M).bind fun x5 => some (x5.1, x5.2)) else (if a1 = 5 then ((f_X10_answer (M 23 5) M).bind fun x6 => some (x6.1, x6.2)) else (if a1 = 6 then (if M 23 6 = 0 then f_X10_many_148 0 M else f_X10_many_148 1 M) else (if a1 = 7 then ((f_X10_answer (M 23 7) M).bind fun x7 => some (x7.1, x7.2)) else (if a1 = 8 then ((f_X10_answer (M 23 8) M).bind fun x8 => some (x8.1, x8.2)) else (if a1 = 9 then ((f_X1_rungSet 23 M).bind fun x9 => (f_X10_answer x9.1 x9.2).bind fun x10 => some (x10.1, x10.2)) else (if a1 = 10 then ((f_X1_loveTogether 23 M).bind fun x11 => (f_X10_answer x11.1 x11.2).bind fun x12 => some (x12.1, x12.2)) else ((f_X10_fail 5 M).bind fun x13 => some (x13.1, x13.2))))))))))))
theorem e_X10_many {Y : List (Nat × Nat)} (d : Nat) (a1 : Int) (M : AM) (x : Int) (N : AM) (h : f_X10_many a1 M = some (x, N)) : Ev Y (d + 5) m_X10_many 0 [some (vR 15 20 0), some (vI a1)] [] M (some (vI x)) N := by
  unfold f_X10_many at h
  refine Z_blk k_X10_many 1 (pc' := 1) (lo' := [some (vR 15 20 0), some (vI a1)]) (st' := [vI a1]) (M1 := M) rfl ?_
  by_cases hs0 : a1 = 0
  · replace h := of_pos hs0 h
    refine Z_tabIn k_X10_many rfl 60 (off := 59) (by rw [hs0]; decide) (by rw [hs0]; decide) (by first | (rw [hs0]; done) | (rw [hs0]; rfl)) rfl ?_
    refine Z_blk k_X10_many 4 (pc' := 68) (lo' := [some (vR 15 20 0), some (vI a1)]) (st' := [vI (M 23 2), vR 15 20 0]) (M1 := M) rfl ?_
    obtain ⟨x1, hx1, h⟩ := Option.bind_eq_some_iff.mp h
    refine Z_callV8 k_X10_many k_X10_answer rfl rfl (l_10_184) (ci := 10) rfl [vI (M 23 2)] [] rfl rfl (Nat.le_of_ble_eq_true rfl) (Nat.le_of_ble_eq_true rfl) (e_X10_answer (d + 4) (M 23 2) M _ _ hx1) ?_
    cases h
    exact Z_ret ⟨Or.inl rfl, _, rfl⟩ rfl
  · replace h := of_neg hs0 h
    by_cases hs1 : a1 = 1
    · replace h := of_pos hs1 h
      refine Z_tabIn k_X10_many rfl 72 (off := 71) (by rw [hs1]; decide) (by rw [hs1]; decide) (by first | (rw [hs1]; done) | (rw [hs1]; rfl)) rfl ?_
      refine Z_blk k_X10_many 4 (pc' := 80) (lo' := [some (vR 15 20 0), some (vI a1)]) (st' := [vI (M 23 3), vR 15 20 0]) (M1 := M) rfl ?_
      obtain ⟨x2, hx2, h⟩ := Option.bind_eq_some_iff.mp h
      refine Z_callV8 k_X10_many k_X10_answer rfl rfl (l_10_184) (ci := 10) rfl [vI (M 23 3)] [] rfl rfl (Nat.le_of_ble_eq_true rfl) (Nat.le_of_ble_eq_true rfl) (e_X10_answer (d + 4) (M 23 3) M _ _ hx2) ?_
      cases h
      exact Z_ret ⟨Or.inl rfl, _, rfl⟩ rfl
    · replace h := of_neg hs1 h
      by_cases hs2 : a1 = 2
      · replace h := of_pos hs2 h
        refine Z_tabIn k_X10_many rfl 84 (off := 83) (by rw [hs2]; decide) (by rw [hs2]; decide) (by first | (rw [hs2]; done) | (rw [hs2]; rfl)) rfl ?_
        refine Z_blk k_X10_many 4 (pc' := 92) (lo' := [some (vR 15 20 0), some (vI a1)]) (st' := [vI (M 23 4), vR 15 20 0]) (M1 := M) rfl ?_
        obtain ⟨x3, hx3, h⟩ := Option.bind_eq_some_iff.mp h
        refine Z_callV8 k_X10_many k_X10_answer rfl rfl (l_10_184) (ci := 10) rfl [vI (M 23 4)] [] rfl rfl (Nat.le_of_ble_eq_true rfl) (Nat.le_of_ble_eq_true rfl) (e_X10_answer (d + 4) (M 23 4) M _ _ hx3) ?_
        cases h
        exact Z_ret ⟨Or.inl rfl, _, rfl⟩ rfl
      · replace h := of_neg hs2 h
        by_cases hs3 : a1 = 3
        · replace h := of_pos hs3 h
          refine Z_tabIn k_X10_many rfl 96 (off := 95) (by rw [hs3]; decide) (by rw [hs3]; decide) (by first | (rw [hs3]; done) | (rw [hs3]; rfl)) rfl ?_
          refine Z_blk k_X10_many 4 (pc' := 104) (lo' := [some (vR 15 20 0), some (vI a1)]) (st' := [vI (M 23 0), vR 15 20 0]) (M1 := M) rfl ?_
          obtain ⟨x4, hx4, h⟩ := Option.bind_eq_some_iff.mp h
          refine Z_callV8 k_X10_many k_X10_answer rfl rfl (l_10_184) (ci := 10) rfl [vI (M 23 0)] [] rfl rfl (Nat.le_of_ble_eq_true rfl) (Nat.le_of_ble_eq_true rfl) (e_X10_answer (d + 4) (M 23 0) M _ _ hx4) ?_
          cases h
          exact Z_ret ⟨Or.inl rfl, _, rfl⟩ rfl
        · replace h := of_neg hs3 h
          by_cases hs4 : a1 = 4
          · replace h := of_pos hs4 h
            refine Z_tabIn k_X10_many rfl 108 (off := 107) (by rw [hs4]; decide) (by rw [hs4]; decide) (by first | (rw [hs4]; done) | (rw [hs4]; rfl)) rfl ?_
            refine Z_blk k_X10_many 4 (pc' := 116) (lo' := [some (vR 15 20 0), some (vI a1)]) (st' := [vI (M 23 1), vR 15 20 0]) (M1 := M) rfl ?_
            obtain ⟨x5, hx5, h⟩ := Option.bind_eq_some_iff.mp h
            refine Z_callV8 k_X10_many k_X10_answer rfl rfl (l_10_184) (ci := 10) rfl [vI (M 23 1)] [] rfl rfl (Nat.le_of_ble_eq_true rfl) (Nat.le_of_ble_eq_true rfl) (e_X10_answer (d + 4) (M 23 1) M _ _ hx5) ?_
            cases h
            exact Z_ret ⟨Or.inl rfl, _, rfl⟩ rfl
          · replace h := of_neg hs4 h
            by_cases hs5 : a1 = 5
            · replace h := of_pos hs5 h
              refine Z_tabIn k_X10_many rfl 120 (off := 119) (by rw [hs5]; decide) (by rw [hs5]; decide) (by first | (rw [hs5]; done) | (rw [hs5]; rfl)) rfl ?_
              refine Z_blk k_X10_many 4 (pc' := 128) (lo' := [some (vR 15 20 0), some (vI a1)]) (st' := [vI (M 23 5), vR 15 20 0]) (M1 := M) rfl ?_
              obtain ⟨x6, hx6, h⟩ := Option.bind_eq_some_iff.mp h
              refine Z_callV8 k_X10_many k_X10_answer rfl rfl (l_10_184) (ci := 10) rfl [vI (M 23 5)] [] rfl rfl (Nat.le_of_ble_eq_true rfl) (Nat.le_of_ble_eq_true rfl) (e_X10_answer (d + 4) (M 23 5) M _ _ hx6) ?_
              cases h
              exact Z_ret ⟨Or.inl rfl, _, rfl⟩ rfl
            · replace h := of_neg hs5 h
              by_cases hs6 : a1 = 6
              · replace h := of_pos hs6 h
                refine Z_tabIn k_X10_many rfl 132 (off := 131) (by rw [hs6]; decide) (by rw [hs6]; decide) (by first | (rw [hs6]; done) | (rw [hs6]; rfl)) rfl ?_
                refine Z_blk k_X10_many 4 (pc' := 140) (lo' := [some (vR 15 20 0), some (vI a1)]) (st' := [vI (M 23 6), vR 15 20 0]) (M1 := M) rfl ?_
                refine Z_if k_X10_many rfl 147 rfl (fun hc => ?_) (fun hc => ?_)
                · replace h := of_pos hc h
                  refine Z_blk k_X10_many 1 (pc' := 148) (lo' := [some (vR 15 20 0), some (vI a1)]) (st' := [vI 0, vR 15 20 0]) (M1 := M) rfl ?_
                  refine Z_mask [false, false] (lo0 := [none, none]) rfl ?_
                  exact e_X10_many_148 d 0 M _ _ h
                · replace h := of_neg hc h
                  refine Z_blk k_X10_many 2 (pc' := 148) (lo' := [some (vR 15 20 0), some (vI a1)]) (st' := [vI 1, vR 15 20 0]) (M1 := M) rfl ?_
                  refine Z_mask [false, false] (lo0 := [none, none]) rfl ?_
                  exact e_X10_many_148 d 1 M _ _ h
              · replace h := of_neg hs6 h
                by_cases hs7 : a1 = 7
                · replace h := of_pos hs7 h
                  refine Z_tabIn k_X10_many rfl 152 (off := 151) (by rw [hs7]; decide) (by rw [hs7]; decide) (by first | (rw [hs7]; done) | (rw [hs7]; rfl)) rfl ?_
                  refine Z_blk k_X10_many 4 (pc' := 160) (lo' := [some (vR 15 20 0), some (vI a1)]) (st' := [vI (M 23 7), vR 15 20 0]) (M1 := M) rfl ?_
                  obtain ⟨x7, hx7, h⟩ := Option.bind_eq_some_iff.mp h
                  refine Z_callV8 k_X10_many k_X10_answer rfl rfl (l_10_184) (ci := 10) rfl [vI (M 23 7)] [] rfl rfl (Nat.le_of_ble_eq_true rfl) (Nat.le_of_ble_eq_true rfl) (e_X10_answer (d + 4) (M 23 7) M _ _ hx7) ?_
                  cases h
                  exact Z_ret ⟨Or.inl rfl, _, rfl⟩ rfl
                · replace h := of_neg hs7 h
                  by_cases hs8 : a1 = 8
                  · replace h := of_pos hs8 h
                    refine Z_tabIn k_X10_many rfl 164 (off := 163) (by rw [hs8]; decide) (by rw [hs8]; decide) (by first | (rw [hs8]; done) | (rw [hs8]; rfl)) rfl ?_
                    refine Z_blk k_X10_many 4 (pc' := 172) (lo' := [some (vR 15 20 0), some (vI a1)]) (st' := [vI (M 23 8), vR 15 20 0]) (M1 := M) rfl ?_
                    obtain ⟨x8, hx8, h⟩ := Option.bind_eq_some_iff.mp h
                    refine Z_callV8 k_X10_many k_X10_answer rfl rfl (l_10_184) (ci := 10) rfl [vI (M 23 8)] [] rfl rfl (Nat.le_of_ble_eq_true rfl) (Nat.le_of_ble_eq_true rfl) (e_X10_answer (d + 4) (M 23 8) M _ _ hx8) ?_
                    cases h
                    exact Z_ret ⟨Or.inl rfl, _, rfl⟩ rfl
                  · replace h := of_neg hs8 h
                    by_cases hs9 : a1 = 9
                    · replace h := of_pos hs9 h
                      refine Z_tabIn k_X10_many rfl 176 (off := 175) (by rw [hs9]; decide) (by rw [hs9]; decide) (by first | (rw [hs9]; done) | (rw [hs9]; rfl)) rfl ?_
                      refine Z_blk k_X10_many 3 (pc' := 181) (lo' := [some (vR 15 20 0), some (vI a1)]) (st' := [vR 23 11 0, vR 15 20 0]) (M1 := M) rfl ?_
                      obtain ⟨x9, hx9, h⟩ := Option.bind_eq_some_iff.mp h
                      refine Z_callV8 k_X10_many k_X1_rungSet rfl rfl (l_10_225) (ci := 1) rfl [] [vR 15 20 0] rfl rfl (Nat.le_of_ble_eq_true rfl) (Nat.le_of_ble_eq_true rfl) (e_X1_rungSet (d + 0) 23 M _ _ hx9) ?_
                      obtain ⟨x10, hx10, h⟩ := Option.bind_eq_some_iff.mp h
                      refine Z_callV8 k_X10_many k_X10_answer rfl rfl (l_10_184) (ci := 10) rfl [vI x9.1] [] rfl rfl (Nat.le_of_ble_eq_true rfl) (Nat.le_of_ble_eq_true rfl) (e_X10_answer (d + 4) x9.1 x9.2 _ _ hx10) ?_
                      cases h
                      exact Z_ret ⟨Or.inl rfl, _, rfl⟩ rfl
                    · replace h := of_neg hs9 h
                      by_cases hs10 : a1 = 10
                      · replace h := of_pos hs10 h
                        refine Z_tabIn k_X10_many rfl 188 (off := 187) (by rw [hs10]; decide) (by rw [hs10]; decide) (by first | (rw [hs10]; done) | (rw [hs10]; rfl)) rfl ?_
                        refine Z_blk k_X10_many 3 (pc' := 193) (lo' := [some (vR 15 20 0), some (vI a1)]) (st' := [vR 23 11 0, vR 15 20 0]) (M1 := M) rfl ?_
                        obtain ⟨x11, hx11, h⟩ := Option.bind_eq_some_iff.mp h
                        refine Z_callV8 k_X10_many k_X1_loveTogether rfl rfl (l_10_229) (ci := 1) rfl [] [vR 15 20 0] rfl rfl (Nat.le_of_ble_eq_true rfl) (Nat.le_of_ble_eq_true rfl) (e_X1_loveTogether (d + 4) 23 M _ _ hx11) ?_
                        obtain ⟨x12, hx12, h⟩ := Option.bind_eq_some_iff.mp h
                        refine Z_callV8 k_X10_many k_X10_answer rfl rfl (l_10_184) (ci := 10) rfl [vI x11.1] [] rfl rfl (Nat.le_of_ble_eq_true rfl) (Nat.le_of_ble_eq_true rfl) (e_X10_answer (d + 4) x11.1 x11.2 _ _ hx12) ?_
                        cases h
                        exact Z_ret ⟨Or.inl rfl, _, rfl⟩ rfl
                      · replace h := of_neg hs10 h
                        refine Z_tabOut k_X10_many rfl 200 (by omega) rfl ?_
                        refine Z_blk k_X10_many 2 (pc' := 202) (lo' := [some (vR 15 20 0), some (vI a1)]) (st' := [vI 5, vR 15 20 0]) (M1 := M) rfl ?_
                        obtain ⟨x13, hx13, h⟩ := Option.bind_eq_some_iff.mp h
                        refine Z_callV8 k_X10_many k_X10_fail rfl rfl (l_10_130) (ci := 10) rfl [vI 5] [] rfl rfl (Nat.le_of_ble_eq_true rfl) (Nat.le_of_ble_eq_true rfl) (e_X10_fail (d + 4) 5 M _ _ hx13) ?_
                        cases h
                        exact Z_ret ⟨Or.inl rfl, _, rfl⟩ rfl
theorem l_10_232 : zhas 4056 (Jvm.Cond.methodLink "BellPullHouse" 232 yX1_isWire) = true := by decide +kernel
theorem l_10_244 : zhas 4060 (Jvm.Cond.methodLink "BellPullHouse" 244 yX1_isWhole) = true := by decide +kernel
def f_X10_wire_107 (s1 : Int) (M : AM) : Option (Int × AM) := (f_X10_answer s1 M).bind fun x1 => some (x1.1, x1.2)
theorem e_X10_wire_107 {Y : List (Nat × Nat)} (d : Nat) (s1 : Int) (M : AM) (x : Int) (N : AM) (h : f_X10_wire_107 s1 M = some (x, N)) : Ev Y (d + 1) m_X10_wire 107 [none, none, none] [vI s1, vR 15 20 0] M (some (vI x)) N := by
  unfold f_X10_wire_107 at h
  obtain ⟨x1, hx1, h⟩ := Option.bind_eq_some_iff.mp h
  refine Z_callV8 k_X10_wire k_X10_answer rfl rfl (l_10_184) (ci := 10) rfl [vI s1] [] rfl rfl (Nat.le_of_ble_eq_true rfl) (Nat.le_of_ble_eq_true rfl) (e_X10_answer (d + 0) s1 M _ _ hx1) ?_
  cases h
  exact Z_ret ⟨Or.inl rfl, _, rfl⟩ rfl
def f_X10_wire (a1 : Int) (a2 : Int) (M : AM) : Option (Int × AM) := (f_X1_isWire 23 a1 M).bind fun x1 => if ¬ x1.1 = 0 then (if a2 = 0 then (if 0 ≤ a1 ∧ a1 < 10 then ((f_X10_answer (x1.2 24 (Int.toNat a1)) x1.2).bind fun x3 => some (x3.1, x3.2)) else none) else (if a2 = 1 then (if 0 ≤ a1 ∧ a1 < 10 then ((f_X10_answer (x1.2 25 (Int.toNat a1)) x1.2).bind fun x5 => some (x5.1, x5.2)) else none) else (if a2 = 2 then (if 0 ≤ a1 ∧ a1 < 10 then ((f_X10_answer (x1.2 26 (Int.toNat a1)) x1.2).bind fun x7 => some (x7.1, x7.2)) else none) else (if a2 = 3 then ((f_X1_isWhole 23 a1 x1.2).bind fun x8 => if x8.1 = 0 then f_X10_wire_107 0 x8.2 else f_X10_wire_107 1 x8.2) else ((f_X10_fail 5 x1.2).bind fun x9 => some (x9.1, x9.2)))))) else ((f_X10_fail 2 x1.2).bind fun x10 => some (x10.1, x10.2))
theorem e_X10_wire {Y : List (Nat × Nat)} (d : Nat) (a1 : Int) (a2 : Int) (M : AM) (x : Int) (N : AM) (h : f_X10_wire a1 a2 M = some (x, N)) : Ev Y (d + 1) m_X10_wire 0 [some (vR 15 20 0), some (vI a1), some (vI a2)] [] M (some (vI x)) N := by
  unfold f_X10_wire at h
  refine Z_blk k_X10_wire 3 (pc' := 5) (lo' := [some (vR 15 20 0), some (vI a1), some (vI a2)]) (st' := [vI a1, vR 23 11 0]) (M1 := M) rfl ?_
  obtain ⟨x1, hx1, h⟩ := Option.bind_eq_some_iff.mp h
  refine Z_callV8 k_X10_wire k_X1_isWire rfl rfl (l_10_232) (ci := 1) rfl [vI a1] [] rfl rfl (Nat.le_of_ble_eq_true rfl) (Nat.le_of_ble_eq_true rfl) (e_X1_isWire (d + 0) 23 a1 M _ _ hx1) ?_
  refine Z_if k_X10_wire rfl 17 rfl (fun hc => ?_) (fun hc => ?_)
  · replace h := of_pos hc h
    refine Z_blk k_X10_wire 1 (pc' := 18) (lo' := [some (vR 15 20 0), some (vI a1), some (vI a2)]) (st' := [vI a2]) (M1 := x1.2) rfl ?_
    by_cases hs0 : a2 = 0
    · replace h := of_pos hs0 h
      refine Z_tabIn k_X10_wire rfl 48 (off := 30) (by rw [hs0]; decide) (by rw [hs0]; decide) (by first | (rw [hs0]; done) | (rw [hs0]; rfl)) rfl ?_
      refine Z_blk k_X10_wire 5 (pc' := 57) (lo' := [some (vR 15 20 0), some (vI a1), some (vI a2)]) (st' := [vI a1, vR 24 0 10, vR 15 20 0]) (M1 := x1.2) rfl ?_
      obtain ⟨hc2, h⟩ := of_grd h
      refine Z_one k_X10_wire rfl (pc' := 58) (lo' := [some (vR 15 20 0), some (vI a1), some (vI a2)]) (st' := [vI (x1.2 24 (Int.toNat a1)), vR 15 20 0]) (M1 := x1.2) (if_pos hc2) ?_
      obtain ⟨x3, hx3, h⟩ := Option.bind_eq_some_iff.mp h
      refine Z_callV8 k_X10_wire k_X10_answer rfl rfl (l_10_184) (ci := 10) rfl [vI (x1.2 24 (Int.toNat a1))] [] rfl rfl (Nat.le_of_ble_eq_true rfl) (Nat.le_of_ble_eq_true rfl) (e_X10_answer (d + 0) (x1.2 24 (Int.toNat a1)) x1.2 _ _ hx3) ?_
      cases h
      exact Z_ret ⟨Or.inl rfl, _, rfl⟩ rfl
    · replace h := of_neg hs0 h
      by_cases hs1 : a2 = 1
      · replace h := of_pos hs1 h
        refine Z_tabIn k_X10_wire rfl 62 (off := 44) (by rw [hs1]; decide) (by rw [hs1]; decide) (by first | (rw [hs1]; done) | (rw [hs1]; rfl)) rfl ?_
        refine Z_blk k_X10_wire 5 (pc' := 71) (lo' := [some (vR 15 20 0), some (vI a1), some (vI a2)]) (st' := [vI a1, vR 25 0 10, vR 15 20 0]) (M1 := x1.2) rfl ?_
        obtain ⟨hc4, h⟩ := of_grd h
        refine Z_one k_X10_wire rfl (pc' := 72) (lo' := [some (vR 15 20 0), some (vI a1), some (vI a2)]) (st' := [vI (x1.2 25 (Int.toNat a1)), vR 15 20 0]) (M1 := x1.2) (if_pos hc4) ?_
        obtain ⟨x5, hx5, h⟩ := Option.bind_eq_some_iff.mp h
        refine Z_callV8 k_X10_wire k_X10_answer rfl rfl (l_10_184) (ci := 10) rfl [vI (x1.2 25 (Int.toNat a1))] [] rfl rfl (Nat.le_of_ble_eq_true rfl) (Nat.le_of_ble_eq_true rfl) (e_X10_answer (d + 0) (x1.2 25 (Int.toNat a1)) x1.2 _ _ hx5) ?_
        cases h
        exact Z_ret ⟨Or.inl rfl, _, rfl⟩ rfl
      · replace h := of_neg hs1 h
        by_cases hs2 : a2 = 2
        · replace h := of_pos hs2 h
          refine Z_tabIn k_X10_wire rfl 76 (off := 58) (by rw [hs2]; decide) (by rw [hs2]; decide) (by first | (rw [hs2]; done) | (rw [hs2]; rfl)) rfl ?_
          refine Z_blk k_X10_wire 5 (pc' := 85) (lo' := [some (vR 15 20 0), some (vI a1), some (vI a2)]) (st' := [vI a1, vR 26 0 10, vR 15 20 0]) (M1 := x1.2) rfl ?_
          obtain ⟨hc6, h⟩ := of_grd h
          refine Z_one k_X10_wire rfl (pc' := 86) (lo' := [some (vR 15 20 0), some (vI a1), some (vI a2)]) (st' := [vI (x1.2 26 (Int.toNat a1)), vR 15 20 0]) (M1 := x1.2) (if_pos hc6) ?_
          obtain ⟨x7, hx7, h⟩ := Option.bind_eq_some_iff.mp h
          refine Z_callV8 k_X10_wire k_X10_answer rfl rfl (l_10_184) (ci := 10) rfl [vI (x1.2 26 (Int.toNat a1))] [] rfl rfl (Nat.le_of_ble_eq_true rfl) (Nat.le_of_ble_eq_true rfl) (e_X10_answer (d + 0) (x1.2 26 (Int.toNat a1)) x1.2 _ _ hx7) ?_
          cases h
          exact Z_ret ⟨Or.inl rfl, _, rfl⟩ rfl
        · replace h := of_neg hs2 h
          by_cases hs3 : a2 = 3
          · replace h := of_pos hs3 h
            refine Z_tabIn k_X10_wire rfl 90 (off := 72) (by rw [hs3]; decide) (by rw [hs3]; decide) (by first | (rw [hs3]; done) | (rw [hs3]; rfl)) rfl ?_
            refine Z_blk k_X10_wire 4 (pc' := 96) (lo' := [some (vR 15 20 0), some (vI a1), some (vI a2)]) (st' := [vI a1, vR 23 11 0, vR 15 20 0]) (M1 := x1.2) rfl ?_
            obtain ⟨x8, hx8, h⟩ := Option.bind_eq_some_iff.mp h
            refine Z_callV8 k_X10_wire k_X1_isWhole rfl rfl (l_10_244) (ci := 1) rfl [vI a1] [vR 15 20 0] rfl rfl (Nat.le_of_ble_eq_true rfl) (Nat.le_of_ble_eq_true rfl) (e_X1_isWhole (d + 0) 23 a1 x1.2 _ _ hx8) ?_
            refine Z_if k_X10_wire rfl 106 rfl (fun hc => ?_) (fun hc => ?_)
            · replace h := of_pos hc h
              refine Z_blk k_X10_wire 1 (pc' := 107) (lo' := [some (vR 15 20 0), some (vI a1), some (vI a2)]) (st' := [vI 0, vR 15 20 0]) (M1 := x8.2) rfl ?_
              refine Z_mask [false, false, false] (lo0 := [none, none, none]) rfl ?_
              exact e_X10_wire_107 d 0 x8.2 _ _ h
            · replace h := of_neg hc h
              refine Z_blk k_X10_wire 2 (pc' := 107) (lo' := [some (vR 15 20 0), some (vI a1), some (vI a2)]) (st' := [vI 1, vR 15 20 0]) (M1 := x8.2) rfl ?_
              refine Z_mask [false, false, false] (lo0 := [none, none, none]) rfl ?_
              exact e_X10_wire_107 d 1 x8.2 _ _ h
          · replace h := of_neg hs3 h
            refine Z_tabOut k_X10_wire rfl 111 (by omega) rfl ?_
            refine Z_blk k_X10_wire 2 (pc' := 113) (lo' := [some (vR 15 20 0), some (vI a1), some (vI a2)]) (st' := [vI 5, vR 15 20 0]) (M1 := x1.2) rfl ?_
            obtain ⟨x9, hx9, h⟩ := Option.bind_eq_some_iff.mp h
            refine Z_callV8 k_X10_wire k_X10_fail rfl rfl (l_10_130) (ci := 10) rfl [vI 5] [] rfl rfl (Nat.le_of_ble_eq_true rfl) (Nat.le_of_ble_eq_true rfl) (e_X10_fail (d + 0) 5 x1.2 _ _ hx9) ?_
            cases h
            exact Z_ret ⟨Or.inl rfl, _, rfl⟩ rfl
  · replace h := of_neg hc h
    refine Z_blk k_X10_wire 2 (pc' := 13) (lo' := [some (vR 15 20 0), some (vI a1), some (vI a2)]) (st' := [vI 2, vR 15 20 0]) (M1 := x1.2) rfl ?_
    obtain ⟨x10, hx10, h⟩ := Option.bind_eq_some_iff.mp h
    refine Z_callV8 k_X10_wire k_X10_fail rfl rfl (l_10_130) (ci := 10) rfl [vI 2] [] rfl rfl (Nat.le_of_ble_eq_true rfl) (Nat.le_of_ble_eq_true rfl) (e_X10_fail (d + 0) 2 x1.2 _ _ hx10) ?_
    cases h
    exact Z_ret ⟨Or.inl rfl, _, rfl⟩ rfl
theorem l_10_247 : zhas 4068 (Jvm.Cond.methodLink "BellPullHouse" 247 yX1_isCouple) = true := by decide +kernel
theorem l_10_259 : zhas 4072 (Jvm.Cond.methodLink "BellPullHouse" 259 yX1_isHolding) = true := by decide +kernel
theorem l_10_262 : zhas 4076 (Jvm.Cond.methodLink "BellPullHouse" 262 yX1_isRung) = true := by decide +kernel
def f_X10_couple_119 (s1 : Int) (M : AM) : Option (Int × AM) := (f_X10_answer s1 M).bind fun x1 => some (x1.1, x1.2)
theorem e_X10_couple_119 {Y : List (Nat × Nat)} (d : Nat) (s1 : Int) (M : AM) (x : Int) (N : AM) (h : f_X10_couple_119 s1 M = some (x, N)) : Ev Y (d + 4) m_X10_couple 119 [none, none, none] [vI s1, vR 15 20 0] M (some (vI x)) N := by
  unfold f_X10_couple_119 at h
  obtain ⟨x1, hx1, h⟩ := Option.bind_eq_some_iff.mp h
  refine Z_callV8 k_X10_couple k_X10_answer rfl rfl (l_10_184) (ci := 10) rfl [vI s1] [] rfl rfl (Nat.le_of_ble_eq_true rfl) (Nat.le_of_ble_eq_true rfl) (e_X10_answer (d + 3) s1 M _ _ hx1) ?_
  cases h
  exact Z_ret ⟨Or.inl rfl, _, rfl⟩ rfl
def f_X10_couple_140 (s1 : Int) (M : AM) : Option (Int × AM) := (f_X10_answer s1 M).bind fun x1 => some (x1.1, x1.2)
theorem e_X10_couple_140 {Y : List (Nat × Nat)} (d : Nat) (s1 : Int) (M : AM) (x : Int) (N : AM) (h : f_X10_couple_140 s1 M = some (x, N)) : Ev Y (d + 4) m_X10_couple 140 [none, none, none] [vI s1, vR 15 20 0] M (some (vI x)) N := by
  unfold f_X10_couple_140 at h
  obtain ⟨x1, hx1, h⟩ := Option.bind_eq_some_iff.mp h
  refine Z_callV8 k_X10_couple k_X10_answer rfl rfl (l_10_184) (ci := 10) rfl [vI s1] [] rfl rfl (Nat.le_of_ble_eq_true rfl) (Nat.le_of_ble_eq_true rfl) (e_X10_answer (d + 3) s1 M _ _ hx1) ?_
  cases h
  exact Z_ret ⟨Or.inl rfl, _, rfl⟩ rfl
def f_X10_couple (a1 : Int) (a2 : Int) (M : AM) : Option (Int × AM) := (f_X1_isCouple 23 a1 M).bind fun x1 => if ¬ x1.1 = 0 then (if a2 = 0 then (if 0 ≤ a1 ∧ a1 < 6 then ((f_X10_answer (x1.2 27 (Int.toNat a1)) x1.2).bind fun x3 => some (x3.1, x3.2)) else none) else (if a2 = 1 then (if 0 ≤ a1 ∧ a1 < 6 then ((f_X10_answer (x1.2 28 (Int.toNat a1)) x1.2).bind fun x5 => some (x5.1, x5.2)) else none) else (if a2 = 2 then (if 0 ≤ a1 ∧ a1 < 6 then ((f_X10_answer (x1.2 29 (Int.toNat a1)) x1.2).bind fun x7 => some (x7.1, x7.2)) else none) else (if a2 = 3 then ((f_X1_isHolding 23 a1 x1.2).bind fun x8 => if x8.1 = 0 then f_X10_couple_119 0 x8.2 else f_X10_couple_119 1 x8.2) else (if a2 = 4 then ((f_X1_isRung 23 a1 x1.2).bind fun x9 => if x9.1 = 0 then f_X10_couple_140 0 x9.2 else f_X10_couple_140 1 x9.2) else (if a2 = 5 then (if 0 ≤ a1 ∧ a1 < 6 then ((f_X10_answer (x1.2 30 (Int.toNat a1)) x1.2).bind fun x11 => some (x11.1, x11.2)) else none) else (if a2 = 6 then (if 0 ≤ a1 ∧ a1 < 6 then ((f_X10_answer (x1.2 31 (Int.toNat a1)) x1.2).bind fun x13 => some (x13.1, x13.2)) else none) else ((f_X10_fail 5 x1.2).bind fun x14 => some (x14.1, x14.2))))))))) else ((f_X10_fail 2 x1.2).bind fun x15 => some (x15.1, x15.2))
theorem e_X10_couple {Y : List (Nat × Nat)} (d : Nat) (a1 : Int) (a2 : Int) (M : AM) (x : Int) (N : AM) (h : f_X10_couple a1 a2 M = some (x, N)) : Ev Y (d + 4) m_X10_couple 0 [some (vR 15 20 0), some (vI a1), some (vI a2)] [] M (some (vI x)) N := by
  unfold f_X10_couple at h
  refine Z_blk k_X10_couple 3 (pc' := 5) (lo' := [some (vR 15 20 0), some (vI a1), some (vI a2)]) (st' := [vI a1, vR 23 11 0]) (M1 := M) rfl ?_
  obtain ⟨x1, hx1, h⟩ := Option.bind_eq_some_iff.mp h
  refine Z_callV8 k_X10_couple k_X1_isCouple rfl rfl (l_10_247) (ci := 1) rfl [vI a1] [] rfl rfl (Nat.le_of_ble_eq_true rfl) (Nat.le_of_ble_eq_true rfl) (e_X1_isCouple (d + 3) 23 a1 M _ _ hx1) ?_
  refine Z_if k_X10_couple rfl 17 rfl (fun hc => ?_) (fun hc => ?_)
  · replace h := of_pos hc h
    refine Z_blk k_X10_couple 1 (pc' := 18) (lo' := [some (vR 15 20 0), some (vI a1), some (vI a2)]) (st' := [vI a2]) (M1 := x1.2) rfl ?_
    by_cases hs0 : a2 = 0
    · replace h := of_pos hs0 h
      refine Z_tabIn k_X10_couple rfl 60 (off := 42) (by rw [hs0]; decide) (by rw [hs0]; decide) (by first | (rw [hs0]; done) | (rw [hs0]; rfl)) rfl ?_
      refine Z_blk k_X10_couple 5 (pc' := 69) (lo' := [some (vR 15 20 0), some (vI a1), some (vI a2)]) (st' := [vI a1, vR 27 0 6, vR 15 20 0]) (M1 := x1.2) rfl ?_
      obtain ⟨hc2, h⟩ := of_grd h
      refine Z_one k_X10_couple rfl (pc' := 70) (lo' := [some (vR 15 20 0), some (vI a1), some (vI a2)]) (st' := [vI (x1.2 27 (Int.toNat a1)), vR 15 20 0]) (M1 := x1.2) (if_pos hc2) ?_
      obtain ⟨x3, hx3, h⟩ := Option.bind_eq_some_iff.mp h
      refine Z_callV8 k_X10_couple k_X10_answer rfl rfl (l_10_184) (ci := 10) rfl [vI (x1.2 27 (Int.toNat a1))] [] rfl rfl (Nat.le_of_ble_eq_true rfl) (Nat.le_of_ble_eq_true rfl) (e_X10_answer (d + 3) (x1.2 27 (Int.toNat a1)) x1.2 _ _ hx3) ?_
      cases h
      exact Z_ret ⟨Or.inl rfl, _, rfl⟩ rfl
    · replace h := of_neg hs0 h
      by_cases hs1 : a2 = 1
      · replace h := of_pos hs1 h
        refine Z_tabIn k_X10_couple rfl 74 (off := 56) (by rw [hs1]; decide) (by rw [hs1]; decide) (by first | (rw [hs1]; done) | (rw [hs1]; rfl)) rfl ?_
        refine Z_blk k_X10_couple 5 (pc' := 83) (lo' := [some (vR 15 20 0), some (vI a1), some (vI a2)]) (st' := [vI a1, vR 28 0 6, vR 15 20 0]) (M1 := x1.2) rfl ?_
        obtain ⟨hc4, h⟩ := of_grd h
        refine Z_one k_X10_couple rfl (pc' := 84) (lo' := [some (vR 15 20 0), some (vI a1), some (vI a2)]) (st' := [vI (x1.2 28 (Int.toNat a1)), vR 15 20 0]) (M1 := x1.2) (if_pos hc4) ?_
        obtain ⟨x5, hx5, h⟩ := Option.bind_eq_some_iff.mp h
        refine Z_callV8 k_X10_couple k_X10_answer rfl rfl (l_10_184) (ci := 10) rfl [vI (x1.2 28 (Int.toNat a1))] [] rfl rfl (Nat.le_of_ble_eq_true rfl) (Nat.le_of_ble_eq_true rfl) (e_X10_answer (d + 3) (x1.2 28 (Int.toNat a1)) x1.2 _ _ hx5) ?_
        cases h
        exact Z_ret ⟨Or.inl rfl, _, rfl⟩ rfl
      · replace h := of_neg hs1 h
        by_cases hs2 : a2 = 2
        · replace h := of_pos hs2 h
          refine Z_tabIn k_X10_couple rfl 88 (off := 70) (by rw [hs2]; decide) (by rw [hs2]; decide) (by first | (rw [hs2]; done) | (rw [hs2]; rfl)) rfl ?_
          refine Z_blk k_X10_couple 5 (pc' := 97) (lo' := [some (vR 15 20 0), some (vI a1), some (vI a2)]) (st' := [vI a1, vR 29 0 6, vR 15 20 0]) (M1 := x1.2) rfl ?_
          obtain ⟨hc6, h⟩ := of_grd h
          refine Z_one k_X10_couple rfl (pc' := 98) (lo' := [some (vR 15 20 0), some (vI a1), some (vI a2)]) (st' := [vI (x1.2 29 (Int.toNat a1)), vR 15 20 0]) (M1 := x1.2) (if_pos hc6) ?_
          obtain ⟨x7, hx7, h⟩ := Option.bind_eq_some_iff.mp h
          refine Z_callV8 k_X10_couple k_X10_answer rfl rfl (l_10_184) (ci := 10) rfl [vI (x1.2 29 (Int.toNat a1))] [] rfl rfl (Nat.le_of_ble_eq_true rfl) (Nat.le_of_ble_eq_true rfl) (e_X10_answer (d + 3) (x1.2 29 (Int.toNat a1)) x1.2 _ _ hx7) ?_
          cases h
          exact Z_ret ⟨Or.inl rfl, _, rfl⟩ rfl
        · replace h := of_neg hs2 h
          by_cases hs3 : a2 = 3
          · replace h := of_pos hs3 h
            refine Z_tabIn k_X10_couple rfl 102 (off := 84) (by rw [hs3]; decide) (by rw [hs3]; decide) (by first | (rw [hs3]; done) | (rw [hs3]; rfl)) rfl ?_
            refine Z_blk k_X10_couple 4 (pc' := 108) (lo' := [some (vR 15 20 0), some (vI a1), some (vI a2)]) (st' := [vI a1, vR 23 11 0, vR 15 20 0]) (M1 := x1.2) rfl ?_
            obtain ⟨x8, hx8, h⟩ := Option.bind_eq_some_iff.mp h
            refine Z_callV8 k_X10_couple k_X1_isHolding rfl rfl (l_10_259) (ci := 1) rfl [vI a1] [vR 15 20 0] rfl rfl (Nat.le_of_ble_eq_true rfl) (Nat.le_of_ble_eq_true rfl) (e_X1_isHolding (d + 3) 23 a1 x1.2 _ _ hx8) ?_
            refine Z_if k_X10_couple rfl 118 rfl (fun hc => ?_) (fun hc => ?_)
            · replace h := of_pos hc h
              refine Z_blk k_X10_couple 1 (pc' := 119) (lo' := [some (vR 15 20 0), some (vI a1), some (vI a2)]) (st' := [vI 0, vR 15 20 0]) (M1 := x8.2) rfl ?_
              refine Z_mask [false, false, false] (lo0 := [none, none, none]) rfl ?_
              exact e_X10_couple_119 d 0 x8.2 _ _ h
            · replace h := of_neg hc h
              refine Z_blk k_X10_couple 2 (pc' := 119) (lo' := [some (vR 15 20 0), some (vI a1), some (vI a2)]) (st' := [vI 1, vR 15 20 0]) (M1 := x8.2) rfl ?_
              refine Z_mask [false, false, false] (lo0 := [none, none, none]) rfl ?_
              exact e_X10_couple_119 d 1 x8.2 _ _ h
          · replace h := of_neg hs3 h
            by_cases hs4 : a2 = 4
            · replace h := of_pos hs4 h
              refine Z_tabIn k_X10_couple rfl 123 (off := 105) (by rw [hs4]; decide) (by rw [hs4]; decide) (by first | (rw [hs4]; done) | (rw [hs4]; rfl)) rfl ?_
              refine Z_blk k_X10_couple 4 (pc' := 129) (lo' := [some (vR 15 20 0), some (vI a1), some (vI a2)]) (st' := [vI a1, vR 23 11 0, vR 15 20 0]) (M1 := x1.2) rfl ?_
              obtain ⟨x9, hx9, h⟩ := Option.bind_eq_some_iff.mp h
              refine Z_callV8 k_X10_couple k_X1_isRung rfl rfl (l_10_262) (ci := 1) rfl [vI a1] [vR 15 20 0] rfl rfl (Nat.le_of_ble_eq_true rfl) (Nat.le_of_ble_eq_true rfl) (e_X1_isRung (d + 0) 23 a1 x1.2 _ _ hx9) ?_
              refine Z_if k_X10_couple rfl 139 rfl (fun hc => ?_) (fun hc => ?_)
              · replace h := of_pos hc h
                refine Z_blk k_X10_couple 1 (pc' := 140) (lo' := [some (vR 15 20 0), some (vI a1), some (vI a2)]) (st' := [vI 0, vR 15 20 0]) (M1 := x9.2) rfl ?_
                refine Z_mask [false, false, false] (lo0 := [none, none, none]) rfl ?_
                exact e_X10_couple_140 d 0 x9.2 _ _ h
              · replace h := of_neg hc h
                refine Z_blk k_X10_couple 2 (pc' := 140) (lo' := [some (vR 15 20 0), some (vI a1), some (vI a2)]) (st' := [vI 1, vR 15 20 0]) (M1 := x9.2) rfl ?_
                refine Z_mask [false, false, false] (lo0 := [none, none, none]) rfl ?_
                exact e_X10_couple_140 d 1 x9.2 _ _ h
            · replace h := of_neg hs4 h
              by_cases hs5 : a2 = 5
              · replace h := of_pos hs5 h
                refine Z_tabIn k_X10_couple rfl 144 (off := 126) (by rw [hs5]; decide) (by rw [hs5]; decide) (by first | (rw [hs5]; done) | (rw [hs5]; rfl)) rfl ?_
                refine Z_blk k_X10_couple 5 (pc' := 153) (lo' := [some (vR 15 20 0), some (vI a1), some (vI a2)]) (st' := [vI a1, vR 30 0 6, vR 15 20 0]) (M1 := x1.2) rfl ?_
                obtain ⟨hc10, h⟩ := of_grd h
                refine Z_one k_X10_couple rfl (pc' := 154) (lo' := [some (vR 15 20 0), some (vI a1), some (vI a2)]) (st' := [vI (x1.2 30 (Int.toNat a1)), vR 15 20 0]) (M1 := x1.2) (if_pos hc10) ?_
                obtain ⟨x11, hx11, h⟩ := Option.bind_eq_some_iff.mp h
                refine Z_callV8 k_X10_couple k_X10_answer rfl rfl (l_10_184) (ci := 10) rfl [vI (x1.2 30 (Int.toNat a1))] [] rfl rfl (Nat.le_of_ble_eq_true rfl) (Nat.le_of_ble_eq_true rfl) (e_X10_answer (d + 3) (x1.2 30 (Int.toNat a1)) x1.2 _ _ hx11) ?_
                cases h
                exact Z_ret ⟨Or.inl rfl, _, rfl⟩ rfl
              · replace h := of_neg hs5 h
                by_cases hs6 : a2 = 6
                · replace h := of_pos hs6 h
                  refine Z_tabIn k_X10_couple rfl 158 (off := 140) (by rw [hs6]; decide) (by rw [hs6]; decide) (by first | (rw [hs6]; done) | (rw [hs6]; rfl)) rfl ?_
                  refine Z_blk k_X10_couple 5 (pc' := 167) (lo' := [some (vR 15 20 0), some (vI a1), some (vI a2)]) (st' := [vI a1, vR 31 0 6, vR 15 20 0]) (M1 := x1.2) rfl ?_
                  obtain ⟨hc12, h⟩ := of_grd h
                  refine Z_one k_X10_couple rfl (pc' := 168) (lo' := [some (vR 15 20 0), some (vI a1), some (vI a2)]) (st' := [vI (x1.2 31 (Int.toNat a1)), vR 15 20 0]) (M1 := x1.2) (if_pos hc12) ?_
                  obtain ⟨x13, hx13, h⟩ := Option.bind_eq_some_iff.mp h
                  refine Z_callV8 k_X10_couple k_X10_answer rfl rfl (l_10_184) (ci := 10) rfl [vI (x1.2 31 (Int.toNat a1))] [] rfl rfl (Nat.le_of_ble_eq_true rfl) (Nat.le_of_ble_eq_true rfl) (e_X10_answer (d + 3) (x1.2 31 (Int.toNat a1)) x1.2 _ _ hx13) ?_
                  cases h
                  exact Z_ret ⟨Or.inl rfl, _, rfl⟩ rfl
                · replace h := of_neg hs6 h
                  refine Z_tabOut k_X10_couple rfl 172 (by omega) rfl ?_
                  refine Z_blk k_X10_couple 2 (pc' := 174) (lo' := [some (vR 15 20 0), some (vI a1), some (vI a2)]) (st' := [vI 5, vR 15 20 0]) (M1 := x1.2) rfl ?_
                  obtain ⟨x14, hx14, h⟩ := Option.bind_eq_some_iff.mp h
                  refine Z_callV8 k_X10_couple k_X10_fail rfl rfl (l_10_130) (ci := 10) rfl [vI 5] [] rfl rfl (Nat.le_of_ble_eq_true rfl) (Nat.le_of_ble_eq_true rfl) (e_X10_fail (d + 3) 5 x1.2 _ _ hx14) ?_
                  cases h
                  exact Z_ret ⟨Or.inl rfl, _, rfl⟩ rfl
  · replace h := of_neg hc h
    refine Z_blk k_X10_couple 2 (pc' := 13) (lo' := [some (vR 15 20 0), some (vI a1), some (vI a2)]) (st' := [vI 2, vR 15 20 0]) (M1 := x1.2) rfl ?_
    obtain ⟨x15, hx15, h⟩ := Option.bind_eq_some_iff.mp h
    refine Z_callV8 k_X10_couple k_X10_fail rfl rfl (l_10_130) (ci := 10) rfl [vI 2] [] rfl rfl (Nat.le_of_ble_eq_true rfl) (Nat.le_of_ble_eq_true rfl) (e_X10_fail (d + 3) 2 x1.2 _ _ hx15) ?_
    cases h
    exact Z_ret ⟨Or.inl rfl, _, rfl⟩ rfl
def f_X10_copyLove_59 : Nat → Int → Int → AM → Option (Int × AM)
  | 0, _, _, _ => none
  | n + 1, a1, a2, M => if M 23 4 ≤ a2 then ((f_X10_answer (M 23 4) M).bind fun x1 => some (x1.1, x1.2)) else (if 0 ≤ a1 ∧ a1 < 4 then (if 0 ≤ a2 ∧ a2 < 6 then ((f_X6_put (16 + 58 + 2 * (Int.toNat a1)) a2 (M 29 (Int.toNat a2)) M).bind fun x4 => f_X10_copyLove_59 n a1 (o_add a2 1) x4) else none) else none)
theorem e_X10_copyLove_59 {Y : List (Nat × Nat)} (d : Nat) : ∀ (n : Nat) (a1 : Int) (a2 : Int) (M : AM) (x : Int) (N : AM), f_X10_copyLove_59 n a1 a2 M = some (x, N) → Ev Y (d + 2) m_X10_copyLove 59 [some (vR 15 20 0), some (vI a1), some (vI a2)] [] M (some (vI x)) N := by
  intro n
  induction n with
  | zero => intro a1 a2 M x N h; cases h
  | succ n ih =>
    intro a1 a2 M x N h
    simp only [f_X10_copyLove_59] at h
    refine Z_blk k_X10_copyLove 4 (pc' := 67) (lo' := [some (vR 15 20 0), some (vI a1), some (vI a2)]) (st' := [vI (M 23 4), vI a2]) (M1 := M) rfl ?_
    refine Z_icmp k_X10_copyLove rfl 96 rfl (fun hc => ?_) (fun hc => ?_)
    · replace h := of_pos hc h
      refine Z_blk k_X10_copyLove 4 (pc' := 104) (lo' := [some (vR 15 20 0), some (vI a1), some (vI a2)]) (st' := [vI (M 23 4), vR 15 20 0]) (M1 := M) rfl ?_
      obtain ⟨x1, hx1, h⟩ := Option.bind_eq_some_iff.mp h
      refine Z_callV8 k_X10_copyLove k_X10_answer rfl rfl (l_10_184) (ci := 10) rfl [vI (M 23 4)] [] rfl rfl (Nat.le_of_ble_eq_true rfl) (Nat.le_of_ble_eq_true rfl) (e_X10_answer (d + 1) (M 23 4) M _ _ hx1) ?_
      cases h
      exact Z_ret ⟨Or.inl rfl, _, rfl⟩ rfl
    · replace h := of_neg hc h
      refine Z_blk k_X10_copyLove 3 (pc' := 75) (lo' := [some (vR 15 20 0), some (vI a1), some (vI a2)]) (st' := [vI a1, vR 16 3 4]) (M1 := M) rfl ?_
      obtain ⟨hc2, h⟩ := of_grd h
      refine Z_one k_X10_copyLove rfl (pc' := 76) (lo' := [some (vR 15 20 0), some (vI a1), some (vI a2)]) (st' := [vR (16 + 58 + 2 * (Int.toNat a1)) 16 0]) (M1 := M) (if_pos hc2) ?_
      refine Z_blk k_X10_copyLove 5 (pc' := 85) (lo' := [some (vR 15 20 0), some (vI a1), some (vI a2)]) (st' := [vI a2, vR 29 0 6, vI a2, vR (16 + 58 + 2 * (Int.toNat a1)) 16 0]) (M1 := M) rfl ?_
      obtain ⟨hc3, h⟩ := of_grd h
      refine Z_one k_X10_copyLove rfl (pc' := 86) (lo' := [some (vR 15 20 0), some (vI a1), some (vI a2)]) (st' := [vI (M 29 (Int.toNat a2)), vI a2, vR (16 + 58 + 2 * (Int.toNat a1)) 16 0]) (M1 := M) (if_pos hc3) ?_
      refine Z_blk k_X10_copyLove 1 (pc' := 87) (lo' := [some (vR 15 20 0), some (vI a1), some (vI a2)]) (st' := [vL (M 29 (Int.toNat a2)), vI a2, vR (16 + 58 + 2 * (Int.toNat a1)) 16 0]) (M1 := M) rfl ?_
      obtain ⟨x4, hx4, h⟩ := Option.bind_eq_some_iff.mp h
      refine Z_callV8 k_X10_copyLove k_X6_put rfl rfl (l_10_126) (ci := 6) rfl [vI a2, vL (M 29 (Int.toNat a2))] [] rfl rfl (Nat.le_of_ble_eq_true rfl) (Nat.le_of_ble_eq_true rfl) (e_X6_put (d + 0) (16 + 58 + 2 * (Int.toNat a1)) a2 (M 29 (Int.toNat a2)) M _ hx4) ?_
      refine Z_blk k_X10_copyLove 2 (pc' := 59) (lo' := [some (vR 15 20 0), some (vI a1), some (vI (o_add a2 1))]) (st' := []) (M1 := x4) rfl ?_
      refine Z_mask [true, true, true] (lo0 := [some (vR 15 20 0), some (vI a1), some (vI (o_add a2 1))]) rfl ?_
      exact ih a1 (o_add a2 1) x4 _ _ h
def f_X10_copyLove (a1 : Int) (M : AM) : Option (Int × AM) := (f_X10_isTray a1 M).bind fun x1 => if ¬ x1.1 = 0 then (if 0 ≤ a1 ∧ a1 < 4 then (if ¬ x1.2 (16 + 58 + 2 * (Int.toNat a1)) 1 = 0 then ((f_X6_hasRow (16 + 58 + 2 * (Int.toNat a1)) 0 (x1.2 23 4) x1.2).bind fun x3 => if ¬ x3.1 = 0 then f_X10_copyLove_59 zB a1 0 x3.2 else ((f_X10_fail 4 x3.2).bind fun x4 => some (x4.1, x4.2))) else ((f_X10_fail 3 x1.2).bind fun x5 => some (x5.1, x5.2))) else none) else ((f_X10_fail 1 x1.2).bind fun x6 => some (x6.1, x6.2))
theorem e_X10_copyLove {Y : List (Nat × Nat)} (d : Nat) (a1 : Int) (M : AM) (x : Int) (N : AM) (h : f_X10_copyLove a1 M = some (x, N)) : Ev Y (d + 2) m_X10_copyLove 0 [some (vR 15 20 0), some (vI a1), none] [] M (some (vI x)) N := by
  unfold f_X10_copyLove at h
  refine Z_blk k_X10_copyLove 1 (pc' := 1) (lo' := [some (vR 15 20 0), some (vI a1), none]) (st' := [vI a1]) (M1 := M) rfl ?_
  obtain ⟨x1, hx1, h⟩ := Option.bind_eq_some_iff.mp h
  refine Z_callS8 k_X10_copyLove k_X10_isTray rfl rfl (l_10_107) [vI a1] [] rfl rfl (Nat.le_of_ble_eq_true rfl) (Nat.le_of_ble_eq_true rfl) (e_X10_isTray (d + 1) a1 M _ _ hx1) ?_
  refine Z_if k_X10_copyLove rfl 13 rfl (fun hc => ?_) (fun hc => ?_)
  · replace h := of_pos hc h
    refine Z_blk k_X10_copyLove 3 (pc' := 18) (lo' := [some (vR 15 20 0), some (vI a1), none]) (st' := [vI a1, vR 16 3 4]) (M1 := x1.2) rfl ?_
    obtain ⟨hc2, h⟩ := of_grd h
    refine Z_one k_X10_copyLove rfl (pc' := 19) (lo' := [some (vR 15 20 0), some (vI a1), none]) (st' := [vR (16 + 58 + 2 * (Int.toNat a1)) 16 0]) (M1 := x1.2) (if_pos hc2) ?_
    refine Z_blk k_X10_copyLove 1 (pc' := 22) (lo' := [some (vR 15 20 0), some (vI a1), none]) (st' := [vI (x1.2 (16 + 58 + 2 * (Int.toNat a1)) 1)]) (M1 := x1.2) rfl ?_
    refine Z_if k_X10_copyLove rfl 31 rfl (fun hc => ?_) (fun hc => ?_)
    · replace h := of_pos hc h
      refine Z_blk k_X10_copyLove 3 (pc' := 36) (lo' := [some (vR 15 20 0), some (vI a1), none]) (st' := [vI a1, vR 16 3 4]) (M1 := x1.2) rfl ?_
      refine Z_one k_X10_copyLove rfl (pc' := 37) (lo' := [some (vR 15 20 0), some (vI a1), none]) (st' := [vR (16 + 58 + 2 * (Int.toNat a1)) 16 0]) (M1 := x1.2) (if_pos hc2) ?_
      refine Z_blk k_X10_copyLove 4 (pc' := 45) (lo' := [some (vR 15 20 0), some (vI a1), none]) (st' := [vI (x1.2 23 4), vI 0, vR (16 + 58 + 2 * (Int.toNat a1)) 16 0]) (M1 := x1.2) rfl ?_
      obtain ⟨x3, hx3, h⟩ := Option.bind_eq_some_iff.mp h
      refine Z_callV8 k_X10_copyLove k_X6_hasRow rfl rfl (l_10_144) (ci := 6) rfl [vI 0, vI (x1.2 23 4)] [] rfl rfl (Nat.le_of_ble_eq_true rfl) (Nat.le_of_ble_eq_true rfl) (e_X6_hasRow (d + 1) (16 + 58 + 2 * (Int.toNat a1)) 0 (x1.2 23 4) x1.2 _ _ hx3) ?_
      refine Z_if k_X10_copyLove rfl 57 rfl (fun hc => ?_) (fun hc => ?_)
      · replace h := of_pos hc h
        refine Z_blk k_X10_copyLove 2 (pc' := 59) (lo' := [some (vR 15 20 0), some (vI a1), some (vI 0)]) (st' := []) (M1 := x3.2) rfl ?_
        refine Z_mask [true, true, true] (lo0 := [some (vR 15 20 0), some (vI a1), some (vI 0)]) rfl ?_
        exact e_X10_copyLove_59 d zB a1 0 x3.2 _ _ h
      · replace h := of_neg hc h
        refine Z_blk k_X10_copyLove 2 (pc' := 53) (lo' := [some (vR 15 20 0), some (vI a1), none]) (st' := [vI 4, vR 15 20 0]) (M1 := x3.2) rfl ?_
        obtain ⟨x4, hx4, h⟩ := Option.bind_eq_some_iff.mp h
        refine Z_callV8 k_X10_copyLove k_X10_fail rfl rfl (l_10_130) (ci := 10) rfl [vI 4] [] rfl rfl (Nat.le_of_ble_eq_true rfl) (Nat.le_of_ble_eq_true rfl) (e_X10_fail (d + 1) 4 x3.2 _ _ hx4) ?_
        cases h
        exact Z_ret ⟨Or.inl rfl, _, rfl⟩ rfl
    · replace h := of_neg hc h
      refine Z_blk k_X10_copyLove 2 (pc' := 27) (lo' := [some (vR 15 20 0), some (vI a1), none]) (st' := [vI 3, vR 15 20 0]) (M1 := x1.2) rfl ?_
      obtain ⟨x5, hx5, h⟩ := Option.bind_eq_some_iff.mp h
      refine Z_callV8 k_X10_copyLove k_X10_fail rfl rfl (l_10_130) (ci := 10) rfl [vI 3] [] rfl rfl (Nat.le_of_ble_eq_true rfl) (Nat.le_of_ble_eq_true rfl) (e_X10_fail (d + 1) 3 x1.2 _ _ hx5) ?_
      cases h
      exact Z_ret ⟨Or.inl rfl, _, rfl⟩ rfl
  · replace h := of_neg hc h
    refine Z_blk k_X10_copyLove 2 (pc' := 9) (lo' := [some (vR 15 20 0), some (vI a1), none]) (st' := [vI 1, vR 15 20 0]) (M1 := x1.2) rfl ?_
    obtain ⟨x6, hx6, h⟩ := Option.bind_eq_some_iff.mp h
    refine Z_callV8 k_X10_copyLove k_X10_fail rfl rfl (l_10_130) (ci := 10) rfl [vI 1] [] rfl rfl (Nat.le_of_ble_eq_true rfl) (Nat.le_of_ble_eq_true rfl) (e_X10_fail (d + 1) 1 x1.2 _ _ hx6) ?_
    cases h
    exact Z_ret ⟨Or.inl rfl, _, rfl⟩ rfl
theorem l_10_271 : zhas 4085 (Jvm.Cond.methodLink "BellPullHouse" 271 yX0_pass) = true := by decide +kernel
def f_X10_day_11 (M : AM) : Option (Int × AM) := (f_X10_fail 5 M).bind fun x1 => some (x1.1, x1.2)
theorem e_X10_day_11 {Y : List (Nat × Nat)} (d : Nat) (M : AM) (x : Int) (N : AM) (h : f_X10_day_11 M = some (x, N)) : Ev Y (d + 5) m_X10_day 11 [some (vR 15 20 0), none] [] M (some (vI x)) N := by
  unfold f_X10_day_11 at h
  refine Z_blk k_X10_day 2 (pc' := 13) (lo' := [some (vR 15 20 0), none]) (st' := [vI 5, vR 15 20 0]) (M1 := M) rfl ?_
  obtain ⟨x1, hx1, h⟩ := Option.bind_eq_some_iff.mp h
  refine Z_callV8 k_X10_day k_X10_fail rfl rfl (l_10_130) (ci := 10) rfl [vI 5] [] rfl rfl (Nat.le_of_ble_eq_true rfl) (Nat.le_of_ble_eq_true rfl) (e_X10_fail (d + 4) 5 M _ _ hx1) ?_
  cases h
  exact Z_ret ⟨Or.inl rfl, _, rfl⟩ rfl
def f_X10_day (a1 : Int) (M : AM) : Option (Int × AM) := if a1 < 1 then f_X10_day_11 M else (if a1 ≤ 99 then (if o_add (M 23 5) a1 ≤ 9999 then ((f_X0_pass 61 23 a1 M).bind fun x1 => (f_X10_answer x1.1 x1.2).bind fun x2 => some (x2.1, x2.2)) else ((f_X10_fail 7 M).bind fun x3 => some (x3.1, x3.2))) else f_X10_day_11 M)
theorem e_X10_day {Y : List (Nat × Nat)} (d : Nat) (a1 : Int) (M : AM) (x : Int) (N : AM) (h : f_X10_day a1 M = some (x, N)) : Ev Y (d + 5) m_X10_day 0 [some (vR 15 20 0), some (vI a1)] [] M (some (vI x)) N := by
  unfold f_X10_day at h
  refine Z_blk k_X10_day 2 (pc' := 2) (lo' := [some (vR 15 20 0), some (vI a1)]) (st' := [vI 1, vI a1]) (M1 := M) rfl ?_
  refine Z_icmp k_X10_day rfl 11 rfl (fun hc => ?_) (fun hc => ?_)
  · replace h := of_pos hc h
    refine Z_mask [true, false] (lo0 := [some (vR 15 20 0), none]) rfl ?_
    exact e_X10_day_11 d M _ _ h
  · replace h := of_neg hc h
    refine Z_blk k_X10_day 2 (pc' := 8) (lo' := [some (vR 15 20 0), some (vI a1)]) (st' := [vI 99, vI a1]) (M1 := M) rfl ?_
    refine Z_icmp k_X10_day rfl 17 rfl (fun hc => ?_) (fun hc => ?_)
    · replace h := of_pos hc h
      refine Z_blk k_X10_day 6 (pc' := 29) (lo' := [some (vR 15 20 0), some (vI a1)]) (st' := [vI 9999, vI (o_add (M 23 5) a1)]) (M1 := M) rfl ?_
      refine Z_icmp k_X10_day rfl 39 rfl (fun hc => ?_) (fun hc => ?_)
      · replace h := of_pos hc h
        refine Z_blk k_X10_day 6 (pc' := 49) (lo' := [some (vR 15 20 0), some (vI a1)]) (st' := [vI a1, vR 23 11 0, vR 61 10 0, vR 15 20 0]) (M1 := M) rfl ?_
        obtain ⟨x1, hx1, h⟩ := Option.bind_eq_some_iff.mp h
        refine Z_callV8 k_X10_day k_X0_pass rfl rfl (l_10_271) (ci := 0) rfl [vR 23 11 0, vI a1] [vR 15 20 0] rfl rfl (Nat.le_of_ble_eq_true rfl) (Nat.le_of_ble_eq_true rfl) (e_X0_pass (d + 0) 61 23 a1 M _ _ hx1) ?_
        obtain ⟨x2, hx2, h⟩ := Option.bind_eq_some_iff.mp h
        refine Z_callV8 k_X10_day k_X10_answer rfl rfl (l_10_184) (ci := 10) rfl [vI x1.1] [] rfl rfl (Nat.le_of_ble_eq_true rfl) (Nat.le_of_ble_eq_true rfl) (e_X10_answer (d + 4) x1.1 x1.2 _ _ hx2) ?_
        cases h
        exact Z_ret ⟨Or.inl rfl, _, rfl⟩ rfl
      · replace h := of_neg hc h
        refine Z_blk k_X10_day 2 (pc' := 35) (lo' := [some (vR 15 20 0), some (vI a1)]) (st' := [vI 7, vR 15 20 0]) (M1 := M) rfl ?_
        obtain ⟨x3, hx3, h⟩ := Option.bind_eq_some_iff.mp h
        refine Z_callV8 k_X10_day k_X10_fail rfl rfl (l_10_130) (ci := 10) rfl [vI 7] [] rfl rfl (Nat.le_of_ble_eq_true rfl) (Nat.le_of_ble_eq_true rfl) (e_X10_fail (d + 4) 7 M _ _ hx3) ?_
        cases h
        exact Z_ret ⟨Or.inl rfl, _, rfl⟩ rfl
    · replace h := of_neg hc h
      refine Z_mask [true, false] (lo0 := [some (vR 15 20 0), none]) rfl ?_
      exact e_X10_day_11 d M _ _ h
def f_X10_damp (a1 : Int) (M : AM) : Option (Int × AM) := if ¬ M 23 6 = a1 then (if a1 = 0 ∨ a1 = 1 then (zlet (am_upd M 23 6 a1) fun M2 => (f_X10_agree M2).bind fun x3 => if x3.1 = 0 ∨ x3.1 = 1 then some (x3.1, x3.2) else none) else none) else ((f_X10_refuse 9 M).bind fun x5 => if x5.1 = 0 ∨ x5.1 = 1 then some (x5.1, x5.2) else none)
theorem e_X10_damp {Y : List (Nat × Nat)} (d : Nat) (a1 : Int) (M : AM) (x : Int) (N : AM) (h : f_X10_damp a1 M = some (x, N)) : Ev Y (d + 1) m_X10_damp 0 [some (vR 15 20 0), some (vI a1)] [] M (some (vI x)) N := by
  unfold f_X10_damp at h
  refine Z_blk k_X10_damp 4 (pc' := 8) (lo' := [some (vR 15 20 0), some (vI a1)]) (st' := [vI a1, vI (M 23 6)]) (M1 := M) rfl ?_
  refine Z_icmp k_X10_damp rfl 18 rfl (fun hc => ?_) (fun hc => ?_)
  · replace h := of_pos hc h
    refine Z_blk k_X10_damp 3 (pc' := 23) (lo' := [some (vR 15 20 0), some (vI a1)]) (st' := [vI a1, vR 23 11 0]) (M1 := M) rfl ?_
    obtain ⟨hc1, h⟩ := of_grd h
    obtain ⟨M2, eM2, h⟩ := of_zlet h
    refine Z_one k_X10_damp rfl (pc' := 26) (lo' := [some (vR 15 20 0), some (vI a1)]) (st' := []) (M1 := M2) (by rw [eM2]; exact if_pos hc1) ?_
    refine Z_blk k_X10_damp 1 (pc' := 27) (lo' := [some (vR 15 20 0), some (vI a1)]) (st' := [vR 15 20 0]) (M1 := M2) rfl ?_
    obtain ⟨x3, hx3, h⟩ := Option.bind_eq_some_iff.mp h
    refine Z_callV8 k_X10_damp k_X10_agree rfl rfl (l_10_118) (ci := 10) rfl [] [] rfl rfl (Nat.le_of_ble_eq_true rfl) (Nat.le_of_ble_eq_true rfl) (e_X10_agree (d + 0) M2 _ _ hx3) ?_
    obtain ⟨hc4, h⟩ := of_grd h
    cases h
    exact Z_ret ⟨Or.inr ⟨rfl, hc4⟩, _, rfl⟩ rfl
  · replace h := of_neg hc h
    refine Z_blk k_X10_damp 2 (pc' := 14) (lo' := [some (vR 15 20 0), some (vI a1)]) (st' := [vI 9, vR 15 20 0]) (M1 := M) rfl ?_
    obtain ⟨x5, hx5, h⟩ := Option.bind_eq_some_iff.mp h
    refine Z_callV8 k_X10_damp k_X10_refuse rfl rfl (l_10_111) (ci := 10) rfl [vI 9] [] rfl rfl (Nat.le_of_ble_eq_true rfl) (Nat.le_of_ble_eq_true rfl) (e_X10_refuse (d + 0) 9 M _ _ hx5) ?_
    obtain ⟨hc6, h⟩ := of_grd h
    cases h
    exact Z_ret ⟨Or.inr ⟨rfl, hc6⟩, _, rfl⟩ rfl
theorem l_10_275 : zhas 4130 (Jvm.Cond.methodLink "BellPullHouse" 275 yX1_cutWire) = true := by decide +kernel
def f_X10_cut (a1 : Int) (M : AM) : Option (Int × AM) := (f_X1_isWire 23 a1 M).bind fun x1 => if ¬ x1.1 = 0 then ((f_X1_isWhole 23 a1 x1.2).bind fun x2 => if ¬ x2.1 = 0 then ((f_X1_cutWire 23 a1 x2.2).bind fun x3 => if 0 ≤ a1 ∧ a1 < 10 then ((f_X10_answer (x3 26 (Int.toNat a1)) x3).bind fun x5 => some (x5.1, x5.2)) else none) else ((f_X10_fail 9 x2.2).bind fun x6 => some (x6.1, x6.2))) else ((f_X10_fail 2 x1.2).bind fun x7 => some (x7.1, x7.2))
theorem e_X10_cut {Y : List (Nat × Nat)} (d : Nat) (a1 : Int) (M : AM) (x : Int) (N : AM) (h : f_X10_cut a1 M = some (x, N)) : Ev Y (d + 1) m_X10_cut 0 [some (vR 15 20 0), some (vI a1)] [] M (some (vI x)) N := by
  unfold f_X10_cut at h
  refine Z_blk k_X10_cut 3 (pc' := 5) (lo' := [some (vR 15 20 0), some (vI a1)]) (st' := [vI a1, vR 23 11 0]) (M1 := M) rfl ?_
  obtain ⟨x1, hx1, h⟩ := Option.bind_eq_some_iff.mp h
  refine Z_callV8 k_X10_cut k_X1_isWire rfl rfl (l_10_232) (ci := 1) rfl [vI a1] [] rfl rfl (Nat.le_of_ble_eq_true rfl) (Nat.le_of_ble_eq_true rfl) (e_X1_isWire (d + 0) 23 a1 M _ _ hx1) ?_
  refine Z_if k_X10_cut rfl 17 rfl (fun hc => ?_) (fun hc => ?_)
  · replace h := of_pos hc h
    refine Z_blk k_X10_cut 3 (pc' := 22) (lo' := [some (vR 15 20 0), some (vI a1)]) (st' := [vI a1, vR 23 11 0]) (M1 := x1.2) rfl ?_
    obtain ⟨x2, hx2, h⟩ := Option.bind_eq_some_iff.mp h
    refine Z_callV8 k_X10_cut k_X1_isWhole rfl rfl (l_10_244) (ci := 1) rfl [vI a1] [] rfl rfl (Nat.le_of_ble_eq_true rfl) (Nat.le_of_ble_eq_true rfl) (e_X1_isWhole (d + 0) 23 a1 x1.2 _ _ hx2) ?_
    refine Z_if k_X10_cut rfl 35 rfl (fun hc => ?_) (fun hc => ?_)
    · replace h := of_pos hc h
      refine Z_blk k_X10_cut 3 (pc' := 40) (lo' := [some (vR 15 20 0), some (vI a1)]) (st' := [vI a1, vR 23 11 0]) (M1 := x2.2) rfl ?_
      obtain ⟨x3, hx3, h⟩ := Option.bind_eq_some_iff.mp h
      refine Z_callV8 k_X10_cut k_X1_cutWire rfl rfl (l_10_275) (ci := 1) rfl [vI a1] [] rfl rfl (Nat.le_of_ble_eq_true rfl) (Nat.le_of_ble_eq_true rfl) (e_X1_cutWire (d + 0) 23 a1 x2.2 _ hx3) ?_
      refine Z_blk k_X10_cut 5 (pc' := 52) (lo' := [some (vR 15 20 0), some (vI a1)]) (st' := [vI a1, vR 26 0 10, vR 15 20 0]) (M1 := x3) rfl ?_
      obtain ⟨hc4, h⟩ := of_grd h
      refine Z_one k_X10_cut rfl (pc' := 53) (lo' := [some (vR 15 20 0), some (vI a1)]) (st' := [vI (x3 26 (Int.toNat a1)), vR 15 20 0]) (M1 := x3) (if_pos hc4) ?_
      obtain ⟨x5, hx5, h⟩ := Option.bind_eq_some_iff.mp h
      refine Z_callV8 k_X10_cut k_X10_answer rfl rfl (l_10_184) (ci := 10) rfl [vI (x3 26 (Int.toNat a1))] [] rfl rfl (Nat.le_of_ble_eq_true rfl) (Nat.le_of_ble_eq_true rfl) (e_X10_answer (d + 0) (x3 26 (Int.toNat a1)) x3 _ _ hx5) ?_
      cases h
      exact Z_ret ⟨Or.inl rfl, _, rfl⟩ rfl
    · replace h := of_neg hc h
      refine Z_blk k_X10_cut 2 (pc' := 31) (lo' := [some (vR 15 20 0), some (vI a1)]) (st' := [vI 9, vR 15 20 0]) (M1 := x2.2) rfl ?_
      obtain ⟨x6, hx6, h⟩ := Option.bind_eq_some_iff.mp h
      refine Z_callV8 k_X10_cut k_X10_fail rfl rfl (l_10_130) (ci := 10) rfl [vI 9] [] rfl rfl (Nat.le_of_ble_eq_true rfl) (Nat.le_of_ble_eq_true rfl) (e_X10_fail (d + 0) 9 x2.2 _ _ hx6) ?_
      cases h
      exact Z_ret ⟨Or.inl rfl, _, rfl⟩ rfl
  · replace h := of_neg hc h
    refine Z_blk k_X10_cut 2 (pc' := 13) (lo' := [some (vR 15 20 0), some (vI a1)]) (st' := [vI 2, vR 15 20 0]) (M1 := x1.2) rfl ?_
    obtain ⟨x7, hx7, h⟩ := Option.bind_eq_some_iff.mp h
    refine Z_callV8 k_X10_cut k_X10_fail rfl rfl (l_10_130) (ci := 10) rfl [vI 2] [] rfl rfl (Nat.le_of_ble_eq_true rfl) (Nat.le_of_ble_eq_true rfl) (e_X10_fail (d + 0) 2 x1.2 _ _ hx7) ?_
    cases h
    exact Z_ret ⟨Or.inl rfl, _, rfl⟩ rfl
theorem l_10_278 : zhas 4138 (Jvm.Cond.methodLink "BellPullHouse" 278 yX1_isMendable) = true := by decide +kernel
theorem l_10_281 : zhas 4142 (Jvm.Cond.methodLink "BellPullHouse" 281 yX1_mendWire) = true := by decide +kernel
def f_X10_mend (a1 : Int) (M : AM) : Option (Int × AM) := (f_X1_isWire 23 a1 M).bind fun x1 => if ¬ x1.1 = 0 then ((f_X1_isMendable 23 a1 x1.2).bind fun x2 => if ¬ x2.1 = 0 then (if 0 ≤ a1 ∧ a1 < 10 then ((f_X1_mendWire 23 a1 x2.2).bind fun x4 => (f_X10_answer (x2.2 26 (Int.toNat a1)) x4).bind fun x5 => some (x5.1, x5.2)) else none) else ((f_X10_fail 9 x2.2).bind fun x6 => some (x6.1, x6.2))) else ((f_X10_fail 2 x1.2).bind fun x7 => some (x7.1, x7.2))
theorem e_X10_mend {Y : List (Nat × Nat)} (d : Nat) (a1 : Int) (M : AM) (x : Int) (N : AM) (h : f_X10_mend a1 M = some (x, N)) : Ev Y (d + 3) m_X10_mend 0 [some (vR 15 20 0), some (vI a1), none] [] M (some (vI x)) N := by
  unfold f_X10_mend at h
  refine Z_blk k_X10_mend 3 (pc' := 5) (lo' := [some (vR 15 20 0), some (vI a1), none]) (st' := [vI a1, vR 23 11 0]) (M1 := M) rfl ?_
  obtain ⟨x1, hx1, h⟩ := Option.bind_eq_some_iff.mp h
  refine Z_callV8 k_X10_mend k_X1_isWire rfl rfl (l_10_232) (ci := 1) rfl [vI a1] [] rfl rfl (Nat.le_of_ble_eq_true rfl) (Nat.le_of_ble_eq_true rfl) (e_X1_isWire (d + 2) 23 a1 M _ _ hx1) ?_
  refine Z_if k_X10_mend rfl 17 rfl (fun hc => ?_) (fun hc => ?_)
  · replace h := of_pos hc h
    refine Z_blk k_X10_mend 3 (pc' := 22) (lo' := [some (vR 15 20 0), some (vI a1), none]) (st' := [vI a1, vR 23 11 0]) (M1 := x1.2) rfl ?_
    obtain ⟨x2, hx2, h⟩ := Option.bind_eq_some_iff.mp h
    refine Z_callV8 k_X10_mend k_X1_isMendable rfl rfl (l_10_278) (ci := 1) rfl [vI a1] [] rfl rfl (Nat.le_of_ble_eq_true rfl) (Nat.le_of_ble_eq_true rfl) (e_X1_isMendable (d + 1) 23 a1 x1.2 _ _ hx2) ?_
    refine Z_if k_X10_mend rfl 35 rfl (fun hc => ?_) (fun hc => ?_)
    · replace h := of_pos hc h
      refine Z_blk k_X10_mend 4 (pc' := 43) (lo' := [some (vR 15 20 0), some (vI a1), none]) (st' := [vI a1, vR 26 0 10]) (M1 := x2.2) rfl ?_
      obtain ⟨hc3, h⟩ := of_grd h
      refine Z_one k_X10_mend rfl (pc' := 44) (lo' := [some (vR 15 20 0), some (vI a1), none]) (st' := [vI (x2.2 26 (Int.toNat a1))]) (M1 := x2.2) (if_pos hc3) ?_
      refine Z_blk k_X10_mend 4 (pc' := 50) (lo' := [some (vR 15 20 0), some (vI a1), some (vI (x2.2 26 (Int.toNat a1)))]) (st' := [vI a1, vR 23 11 0]) (M1 := x2.2) rfl ?_
      obtain ⟨x4, hx4, h⟩ := Option.bind_eq_some_iff.mp h
      refine Z_callV8 k_X10_mend k_X1_mendWire rfl rfl (l_10_281) (ci := 1) rfl [vI a1] [] rfl rfl (Nat.le_of_ble_eq_true rfl) (Nat.le_of_ble_eq_true rfl) (e_X1_mendWire (d + 0) 23 a1 x2.2 _ hx4) ?_
      refine Z_blk k_X10_mend 2 (pc' := 55) (lo' := [some (vR 15 20 0), some (vI a1), some (vI (x2.2 26 (Int.toNat a1)))]) (st' := [vI (x2.2 26 (Int.toNat a1)), vR 15 20 0]) (M1 := x4) rfl ?_
      obtain ⟨x5, hx5, h⟩ := Option.bind_eq_some_iff.mp h
      refine Z_callV8 k_X10_mend k_X10_answer rfl rfl (l_10_184) (ci := 10) rfl [vI (x2.2 26 (Int.toNat a1))] [] rfl rfl (Nat.le_of_ble_eq_true rfl) (Nat.le_of_ble_eq_true rfl) (e_X10_answer (d + 2) (x2.2 26 (Int.toNat a1)) x4 _ _ hx5) ?_
      cases h
      exact Z_ret ⟨Or.inl rfl, _, rfl⟩ rfl
    · replace h := of_neg hc h
      refine Z_blk k_X10_mend 2 (pc' := 31) (lo' := [some (vR 15 20 0), some (vI a1), none]) (st' := [vI 9, vR 15 20 0]) (M1 := x2.2) rfl ?_
      obtain ⟨x6, hx6, h⟩ := Option.bind_eq_some_iff.mp h
      refine Z_callV8 k_X10_mend k_X10_fail rfl rfl (l_10_130) (ci := 10) rfl [vI 9] [] rfl rfl (Nat.le_of_ble_eq_true rfl) (Nat.le_of_ble_eq_true rfl) (e_X10_fail (d + 2) 9 x2.2 _ _ hx6) ?_
      cases h
      exact Z_ret ⟨Or.inl rfl, _, rfl⟩ rfl
  · replace h := of_neg hc h
    refine Z_blk k_X10_mend 2 (pc' := 13) (lo' := [some (vR 15 20 0), some (vI a1), none]) (st' := [vI 2, vR 15 20 0]) (M1 := x1.2) rfl ?_
    obtain ⟨x7, hx7, h⟩ := Option.bind_eq_some_iff.mp h
    refine Z_callV8 k_X10_mend k_X10_fail rfl rfl (l_10_130) (ci := 10) rfl [vI 2] [] rfl rfl (Nat.le_of_ble_eq_true rfl) (Nat.le_of_ble_eq_true rfl) (e_X10_fail (d + 2) 2 x1.2 _ _ hx7) ?_
    cases h
    exact Z_ret ⟨Or.inl rfl, _, rfl⟩ rfl
theorem l_10_284 : zhas 4155 (Jvm.Cond.methodLink "BellPullHouse" 284 yX1_setSlack) = true := by decide +kernel
def f_X10_stretch_27 (M : AM) : Option (Int × AM) := (f_X10_refuse 5 M).bind fun x1 => if x1.1 = 0 ∨ x1.1 = 1 then some (x1.1, x1.2) else none
theorem e_X10_stretch_27 {Y : List (Nat × Nat)} (d : Nat) (M : AM) (x : Int) (N : AM) (h : f_X10_stretch_27 M = some (x, N)) : Ev Y (d + 2) m_X10_stretch 27 [some (vR 15 20 0), none, none] [] M (some (vI x)) N := by
  unfold f_X10_stretch_27 at h
  refine Z_blk k_X10_stretch 2 (pc' := 29) (lo' := [some (vR 15 20 0), none, none]) (st' := [vI 5, vR 15 20 0]) (M1 := M) rfl ?_
  obtain ⟨x1, hx1, h⟩ := Option.bind_eq_some_iff.mp h
  refine Z_callV8 k_X10_stretch k_X10_refuse rfl rfl (l_10_111) (ci := 10) rfl [vI 5] [] rfl rfl (Nat.le_of_ble_eq_true rfl) (Nat.le_of_ble_eq_true rfl) (e_X10_refuse (d + 1) 5 M _ _ hx1) ?_
  obtain ⟨hc2, h⟩ := of_grd h
  cases h
  exact Z_ret ⟨Or.inr ⟨rfl, hc2⟩, _, rfl⟩ rfl
def f_X10_stretch (a1 : Int) (a2 : Int) (M : AM) : Option (Int × AM) := (f_X1_isWire 23 a1 M).bind fun x1 => if ¬ x1.1 = 0 then (if a2 < 0 then f_X10_stretch_27 x1.2 else (if a2 ≤ 9 then ((f_X1_setSlack 23 a1 a2 x1.2).bind fun x2 => (f_X10_agree x2).bind fun x3 => if x3.1 = 0 ∨ x3.1 = 1 then some (x3.1, x3.2) else none) else f_X10_stretch_27 x1.2)) else ((f_X10_refuse 2 x1.2).bind fun x5 => if x5.1 = 0 ∨ x5.1 = 1 then some (x5.1, x5.2) else none)
theorem e_X10_stretch {Y : List (Nat × Nat)} (d : Nat) (a1 : Int) (a2 : Int) (M : AM) (x : Int) (N : AM) (h : f_X10_stretch a1 a2 M = some (x, N)) : Ev Y (d + 2) m_X10_stretch 0 [some (vR 15 20 0), some (vI a1), some (vI a2)] [] M (some (vI x)) N := by
  unfold f_X10_stretch at h
  refine Z_blk k_X10_stretch 3 (pc' := 5) (lo' := [some (vR 15 20 0), some (vI a1), some (vI a2)]) (st' := [vI a1, vR 23 11 0]) (M1 := M) rfl ?_
  obtain ⟨x1, hx1, h⟩ := Option.bind_eq_some_iff.mp h
  refine Z_callV8 k_X10_stretch k_X1_isWire rfl rfl (l_10_232) (ci := 1) rfl [vI a1] [] rfl rfl (Nat.le_of_ble_eq_true rfl) (Nat.le_of_ble_eq_true rfl) (e_X1_isWire (d + 1) 23 a1 M _ _ hx1) ?_
  refine Z_if k_X10_stretch rfl 17 rfl (fun hc => ?_) (fun hc => ?_)
  · replace h := of_pos hc h
    refine Z_blk k_X10_stretch 1 (pc' := 18) (lo' := [some (vR 15 20 0), some (vI a1), some (vI a2)]) (st' := [vI a2]) (M1 := x1.2) rfl ?_
    refine Z_if k_X10_stretch rfl 27 rfl (fun hc => ?_) (fun hc => ?_)
    · replace h := of_pos hc h
      refine Z_mask [true, false, false] (lo0 := [some (vR 15 20 0), none, none]) rfl ?_
      exact e_X10_stretch_27 d x1.2 _ _ h
    · replace h := of_neg hc h
      refine Z_blk k_X10_stretch 2 (pc' := 24) (lo' := [some (vR 15 20 0), some (vI a1), some (vI a2)]) (st' := [vI 9, vI a2]) (M1 := x1.2) rfl ?_
      refine Z_icmp k_X10_stretch rfl 33 rfl (fun hc => ?_) (fun hc => ?_)
      · replace h := of_pos hc h
        refine Z_blk k_X10_stretch 4 (pc' := 39) (lo' := [some (vR 15 20 0), some (vI a1), some (vI a2)]) (st' := [vI a2, vI a1, vR 23 11 0]) (M1 := x1.2) rfl ?_
        obtain ⟨x2, hx2, h⟩ := Option.bind_eq_some_iff.mp h
        refine Z_callV8 k_X10_stretch k_X1_setSlack rfl rfl (l_10_284) (ci := 1) rfl [vI a1, vI a2] [] rfl rfl (Nat.le_of_ble_eq_true rfl) (Nat.le_of_ble_eq_true rfl) (e_X1_setSlack (d + 0) 23 a1 a2 x1.2 _ hx2) ?_
        refine Z_blk k_X10_stretch 1 (pc' := 43) (lo' := [some (vR 15 20 0), some (vI a1), some (vI a2)]) (st' := [vR 15 20 0]) (M1 := x2) rfl ?_
        obtain ⟨x3, hx3, h⟩ := Option.bind_eq_some_iff.mp h
        refine Z_callV8 k_X10_stretch k_X10_agree rfl rfl (l_10_118) (ci := 10) rfl [] [] rfl rfl (Nat.le_of_ble_eq_true rfl) (Nat.le_of_ble_eq_true rfl) (e_X10_agree (d + 1) x2 _ _ hx3) ?_
        obtain ⟨hc4, h⟩ := of_grd h
        cases h
        exact Z_ret ⟨Or.inr ⟨rfl, hc4⟩, _, rfl⟩ rfl
      · replace h := of_neg hc h
        refine Z_mask [true, false, false] (lo0 := [some (vR 15 20 0), none, none]) rfl ?_
        exact e_X10_stretch_27 d x1.2 _ _ h
  · replace h := of_neg hc h
    refine Z_blk k_X10_stretch 2 (pc' := 13) (lo' := [some (vR 15 20 0), some (vI a1), some (vI a2)]) (st' := [vI 2, vR 15 20 0]) (M1 := x1.2) rfl ?_
    obtain ⟨x5, hx5, h⟩ := Option.bind_eq_some_iff.mp h
    refine Z_callV8 k_X10_stretch k_X10_refuse rfl rfl (l_10_111) (ci := 10) rfl [vI 2] [] rfl rfl (Nat.le_of_ble_eq_true rfl) (Nat.le_of_ble_eq_true rfl) (e_X10_refuse (d + 1) 2 x1.2 _ _ hx5) ?_
    obtain ⟨hc6, h⟩ := of_grd h
    cases h
    exact Z_ret ⟨Or.inr ⟨rfl, hc6⟩, _, rfl⟩ rfl
theorem l_10_287 : zhas 4160 (Jvm.Cond.methodLink "BellPullHouse" 287 yX1_isRoom) = true := by decide +kernel
theorem l_10_290 : zhas 4161 (Jvm.Cond.methodLink "BellPullHouse" 290 yX1_addWire) = true := by decide +kernel
def f_X10_string_22 (M : AM) : Option (Int × AM) := (f_X10_fail 2 M).bind fun x1 => some (x1.1, x1.2)
theorem e_X10_string_22 {Y : List (Nat × Nat)} (d : Nat) (M : AM) (x : Int) (N : AM) (h : f_X10_string_22 M = some (x, N)) : Ev Y (d + 1) m_X10_string 22 [some (vR 15 20 0), none, none] [] M (some (vI x)) N := by
  unfold f_X10_string_22 at h
  refine Z_blk k_X10_string 2 (pc' := 24) (lo' := [some (vR 15 20 0), none, none]) (st' := [vI 2, vR 15 20 0]) (M1 := M) rfl ?_
  obtain ⟨x1, hx1, h⟩ := Option.bind_eq_some_iff.mp h
  refine Z_callV8 k_X10_string k_X10_fail rfl rfl (l_10_130) (ci := 10) rfl [vI 2] [] rfl rfl (Nat.le_of_ble_eq_true rfl) (Nat.le_of_ble_eq_true rfl) (e_X10_fail (d + 0) 2 M _ _ hx1) ?_
  cases h
  exact Z_ret ⟨Or.inl rfl, _, rfl⟩ rfl
def f_X10_string (a1 : Int) (a2 : Int) (M : AM) : Option (Int × AM) := (f_X1_isRoom 23 a1 M).bind fun x1 => if x1.1 = 0 then f_X10_string_22 x1.2 else ((f_X1_isRoom 23 a2 x1.2).bind fun x2 => if ¬ x2.1 = 0 then (if ¬ a1 = a2 then (if x2.2 23 3 < 10 then ((f_X1_addWire 23 a1 a2 0 x2.2).bind fun x3 => (f_X10_answer (o_sub (x3 23 3) 1) x3).bind fun x4 => some (x4.1, x4.2)) else ((f_X10_fail 7 x2.2).bind fun x5 => some (x5.1, x5.2))) else ((f_X10_fail 5 x2.2).bind fun x6 => some (x6.1, x6.2))) else f_X10_string_22 x2.2)
theorem e_X10_string {Y : List (Nat × Nat)} (d : Nat) (a1 : Int) (a2 : Int) (M : AM) (x : Int) (N : AM) (h : f_X10_string a1 a2 M = some (x, N)) : Ev Y (d + 1) m_X10_string 0 [some (vR 15 20 0), some (vI a1), some (vI a2)] [] M (some (vI x)) N := by
  unfold f_X10_string at h
  refine Z_blk k_X10_string 3 (pc' := 5) (lo' := [some (vR 15 20 0), some (vI a1), some (vI a2)]) (st' := [vI a1, vR 23 11 0]) (M1 := M) rfl ?_
  obtain ⟨x1, hx1, h⟩ := Option.bind_eq_some_iff.mp h
  refine Z_callV8 k_X10_string k_X1_isRoom rfl rfl (l_10_287) (ci := 1) rfl [vI a1] [] rfl rfl (Nat.le_of_ble_eq_true rfl) (Nat.le_of_ble_eq_true rfl) (e_X1_isRoom (d + 0) 23 a1 M _ _ hx1) ?_
  refine Z_if k_X10_string rfl 22 rfl (fun hc => ?_) (fun hc => ?_)
  · replace h := of_pos hc h
    refine Z_mask [true, false, false] (lo0 := [some (vR 15 20 0), none, none]) rfl ?_
    exact e_X10_string_22 d x1.2 _ _ h
  · replace h := of_neg hc h
    refine Z_blk k_X10_string 3 (pc' := 16) (lo' := [some (vR 15 20 0), some (vI a1), some (vI a2)]) (st' := [vI a2, vR 23 11 0]) (M1 := x1.2) rfl ?_
    obtain ⟨x2, hx2, h⟩ := Option.bind_eq_some_iff.mp h
    refine Z_callV8 k_X10_string k_X1_isRoom rfl rfl (l_10_287) (ci := 1) rfl [vI a2] [] rfl rfl (Nat.le_of_ble_eq_true rfl) (Nat.le_of_ble_eq_true rfl) (e_X1_isRoom (d + 0) 23 a2 x1.2 _ _ hx2) ?_
    refine Z_if k_X10_string rfl 28 rfl (fun hc => ?_) (fun hc => ?_)
    · replace h := of_pos hc h
      refine Z_blk k_X10_string 2 (pc' := 30) (lo' := [some (vR 15 20 0), some (vI a1), some (vI a2)]) (st' := [vI a2, vI a1]) (M1 := x2.2) rfl ?_
      refine Z_icmp k_X10_string rfl 39 rfl (fun hc => ?_) (fun hc => ?_)
      · replace h := of_pos hc h
        refine Z_blk k_X10_string 4 (pc' := 48) (lo' := [some (vR 15 20 0), some (vI a1), some (vI a2)]) (st' := [vI 10, vI (x2.2 23 3)]) (M1 := x2.2) rfl ?_
        refine Z_icmp k_X10_string rfl 58 rfl (fun hc => ?_) (fun hc => ?_)
        · replace h := of_pos hc h
          refine Z_blk k_X10_string 5 (pc' := 65) (lo' := [some (vR 15 20 0), some (vI a1), some (vI a2)]) (st' := [vI 0, vI a2, vI a1, vR 23 11 0]) (M1 := x2.2) rfl ?_
          obtain ⟨x3, hx3, h⟩ := Option.bind_eq_some_iff.mp h
          refine Z_callV8 k_X10_string k_X1_addWire rfl rfl (l_10_290) (ci := 1) rfl [vI a1, vI a2, vI 0] [] rfl rfl (Nat.le_of_ble_eq_true rfl) (Nat.le_of_ble_eq_true rfl) (e_X1_addWire (d + 0) 23 a1 a2 0 x2.2 _ hx3) ?_
          refine Z_blk k_X10_string 6 (pc' := 78) (lo' := [some (vR 15 20 0), some (vI a1), some (vI a2)]) (st' := [vI (o_sub (x3 23 3) 1), vR 15 20 0]) (M1 := x3) rfl ?_
          obtain ⟨x4, hx4, h⟩ := Option.bind_eq_some_iff.mp h
          refine Z_callV8 k_X10_string k_X10_answer rfl rfl (l_10_184) (ci := 10) rfl [vI (o_sub (x3 23 3) 1)] [] rfl rfl (Nat.le_of_ble_eq_true rfl) (Nat.le_of_ble_eq_true rfl) (e_X10_answer (d + 0) (o_sub (x3 23 3) 1) x3 _ _ hx4) ?_
          cases h
          exact Z_ret ⟨Or.inl rfl, _, rfl⟩ rfl
        · replace h := of_neg hc h
          refine Z_blk k_X10_string 2 (pc' := 54) (lo' := [some (vR 15 20 0), some (vI a1), some (vI a2)]) (st' := [vI 7, vR 15 20 0]) (M1 := x2.2) rfl ?_
          obtain ⟨x5, hx5, h⟩ := Option.bind_eq_some_iff.mp h
          refine Z_callV8 k_X10_string k_X10_fail rfl rfl (l_10_130) (ci := 10) rfl [vI 7] [] rfl rfl (Nat.le_of_ble_eq_true rfl) (Nat.le_of_ble_eq_true rfl) (e_X10_fail (d + 0) 7 x2.2 _ _ hx5) ?_
          cases h
          exact Z_ret ⟨Or.inl rfl, _, rfl⟩ rfl
      · replace h := of_neg hc h
        refine Z_blk k_X10_string 2 (pc' := 35) (lo' := [some (vR 15 20 0), some (vI a1), some (vI a2)]) (st' := [vI 5, vR 15 20 0]) (M1 := x2.2) rfl ?_
        obtain ⟨x6, hx6, h⟩ := Option.bind_eq_some_iff.mp h
        refine Z_callV8 k_X10_string k_X10_fail rfl rfl (l_10_130) (ci := 10) rfl [vI 5] [] rfl rfl (Nat.le_of_ble_eq_true rfl) (Nat.le_of_ble_eq_true rfl) (e_X10_fail (d + 0) 5 x2.2 _ _ hx6) ?_
        cases h
        exact Z_ret ⟨Or.inl rfl, _, rfl⟩ rfl
    · replace h := of_neg hc h
      refine Z_mask [true, false, false] (lo0 := [some (vR 15 20 0), none, none]) rfl ?_
      exact e_X10_string_22 d x2.2 _ _ h
def f_X10_move_22 (M : AM) : Option (Int × AM) := (f_X10_fail 2 M).bind fun x1 => some (x1.1, x1.2)
theorem e_X10_move_22 {Y : List (Nat × Nat)} (d : Nat) (M : AM) (x : Int) (N : AM) (h : f_X10_move_22 M = some (x, N)) : Ev Y (d + 1) m_X10_move 22 [some (vR 15 20 0), none, none, none, none, none] [] M (some (vI x)) N := by
  unfold f_X10_move_22 at h
  refine Z_blk k_X10_move 2 (pc' := 24) (lo' := [some (vR 15 20 0), none, none, none, none, none]) (st' := [vI 2, vR 15 20 0]) (M1 := M) rfl ?_
  obtain ⟨x1, hx1, h⟩ := Option.bind_eq_some_iff.mp h
  refine Z_callV8 k_X10_move k_X10_fail rfl rfl (l_10_130) (ci := 10) rfl [vI 2] [] rfl rfl (Nat.le_of_ble_eq_true rfl) (Nat.le_of_ble_eq_true rfl) (e_X10_fail (d + 0) 2 M _ _ hx1) ?_
  cases h
  exact Z_ret ⟨Or.inl rfl, _, rfl⟩ rfl
def f_X10_move_64 (a1 : Int) (a3 : Int) (r0 : Nat) (M : AM) : Option (Int × AM) := if 0 ≤ a1 ∧ a1 < 6 then (if ¬ M r0 (Int.toNat a1) = a3 then (zlet (am_upd M r0 (Int.toNat a1) a3) fun M2 => (f_X10_answer (M r0 (Int.toNat a1)) M2).bind fun x3 => some (x3.1, x3.2)) else ((f_X10_fail 9 M).bind fun x4 => some (x4.1, x4.2))) else none
theorem e_X10_move_64 {Y : List (Nat × Nat)} (d : Nat) (a1 : Int) (a3 : Int) (r0 : Nat) (M : AM) (x : Int) (N : AM) (h : f_X10_move_64 a1 a3 r0 M = some (x, N)) : Ev Y (d + 1) m_X10_move 64 [some (vR 15 20 0), some (vI a1), none, some (vI a3), none, none] [vR r0 0 6] M (some (vI x)) N := by
  unfold f_X10_move_64 at h
  refine Z_blk k_X10_move 3 (pc' := 69) (lo' := [some (vR 15 20 0), some (vI a1), none, some (vI a3), some (vR r0 0 6), none]) (st' := [vI a1, vR r0 0 6]) (M1 := M) rfl ?_
  obtain ⟨hc1, h⟩ := of_grd h
  refine Z_one k_X10_move rfl (pc' := 70) (lo' := [some (vR 15 20 0), some (vI a1), none, some (vI a3), some (vR r0 0 6), none]) (st' := [vI (M r0 (Int.toNat a1))]) (M1 := M) (if_pos hc1) ?_
  refine Z_blk k_X10_move 3 (pc' := 75) (lo' := [some (vR 15 20 0), some (vI a1), none, some (vI a3), some (vR r0 0 6), some (vI (M r0 (Int.toNat a1)))]) (st' := [vI a3, vI (M r0 (Int.toNat a1))]) (M1 := M) rfl ?_
  refine Z_icmp k_X10_move rfl 85 rfl (fun hc => ?_) (fun hc => ?_)
  · replace h := of_pos hc h
    refine Z_blk k_X10_move 3 (pc' := 89) (lo' := [some (vR 15 20 0), some (vI a1), none, some (vI a3), some (vR r0 0 6), some (vI (M r0 (Int.toNat a1)))]) (st' := [vI a3, vI a1, vR r0 0 6]) (M1 := M) rfl ?_
    obtain ⟨M2, eM2, h⟩ := of_zlet h
    refine Z_one k_X10_move rfl (pc' := 90) (lo' := [some (vR 15 20 0), some (vI a1), none, some (vI a3), some (vR r0 0 6), some (vI (M r0 (Int.toNat a1)))]) (st' := []) (M1 := M2) (by rw [eM2]; exact if_pos hc1) ?_
    refine Z_blk k_X10_move 2 (pc' := 93) (lo' := [some (vR 15 20 0), some (vI a1), none, some (vI a3), some (vR r0 0 6), some (vI (M r0 (Int.toNat a1)))]) (st' := [vI (M r0 (Int.toNat a1)), vR 15 20 0]) (M1 := M2) rfl ?_
    obtain ⟨x3, hx3, h⟩ := Option.bind_eq_some_iff.mp h
    refine Z_callV8 k_X10_move k_X10_answer rfl rfl (l_10_184) (ci := 10) rfl [vI (M r0 (Int.toNat a1))] [] rfl rfl (Nat.le_of_ble_eq_true rfl) (Nat.le_of_ble_eq_true rfl) (e_X10_answer (d + 0) (M r0 (Int.toNat a1)) M2 _ _ hx3) ?_
    cases h
    exact Z_ret ⟨Or.inl rfl, _, rfl⟩ rfl
  · replace h := of_neg hc h
    refine Z_blk k_X10_move 2 (pc' := 81) (lo' := [some (vR 15 20 0), some (vI a1), none, some (vI a3), some (vR r0 0 6), some (vI (M r0 (Int.toNat a1)))]) (st' := [vI 9, vR 15 20 0]) (M1 := M) rfl ?_
    obtain ⟨x4, hx4, h⟩ := Option.bind_eq_some_iff.mp h
    refine Z_callV8 k_X10_move k_X10_fail rfl rfl (l_10_130) (ci := 10) rfl [vI 9] [] rfl rfl (Nat.le_of_ble_eq_true rfl) (Nat.le_of_ble_eq_true rfl) (e_X10_fail (d + 0) 9 M _ _ hx4) ?_
    cases h
    exact Z_ret ⟨Or.inl rfl, _, rfl⟩ rfl
def f_X10_move_43 (a1 : Int) (a2 : Int) (a3 : Int) (M : AM) : Option (Int × AM) := if ¬ a2 = 0 then f_X10_move_64 a1 a3 28 M else f_X10_move_64 a1 a3 27 M
theorem e_X10_move_43 {Y : List (Nat × Nat)} (d : Nat) (a1 : Int) (a2 : Int) (a3 : Int) (M : AM) (x : Int) (N : AM) (h : f_X10_move_43 a1 a2 a3 M = some (x, N)) : Ev Y (d + 1) m_X10_move 43 [some (vR 15 20 0), some (vI a1), some (vI a2), some (vI a3), none, none] [] M (some (vI x)) N := by
  unfold f_X10_move_43 at h
  refine Z_blk k_X10_move 1 (pc' := 44) (lo' := [some (vR 15 20 0), some (vI a1), some (vI a2), some (vI a3), none, none]) (st' := [vI a2]) (M1 := M) rfl ?_
  refine Z_if k_X10_move rfl 57 rfl (fun hc => ?_) (fun hc => ?_)
  · replace h := of_pos hc h
    refine Z_blk k_X10_move 3 (pc' := 64) (lo' := [some (vR 15 20 0), some (vI a1), some (vI a2), some (vI a3), none, none]) (st' := [vR 28 0 6]) (M1 := M) rfl ?_
    refine Z_mask [true, true, false, true, false, false] (lo0 := [some (vR 15 20 0), some (vI a1), none, some (vI a3), none, none]) rfl ?_
    exact e_X10_move_64 d a1 a3 28 M _ _ h
  · replace h := of_neg hc h
    refine Z_blk k_X10_move 4 (pc' := 64) (lo' := [some (vR 15 20 0), some (vI a1), some (vI a2), some (vI a3), none, none]) (st' := [vR 27 0 6]) (M1 := M) rfl ?_
    refine Z_mask [true, true, false, true, false, false] (lo0 := [some (vR 15 20 0), some (vI a1), none, some (vI a3), none, none]) rfl ?_
    exact e_X10_move_64 d a1 a3 27 M _ _ h
def f_X10_move (a1 : Int) (a2 : Int) (a3 : Int) (M : AM) : Option (Int × AM) := (f_X1_isCouple 23 a1 M).bind fun x1 => if x1.1 = 0 then f_X10_move_22 x1.2 else ((f_X1_isRoom 23 a3 x1.2).bind fun x2 => if ¬ x2.1 = 0 then (if a2 = 0 then f_X10_move_43 a1 a2 a3 x2.2 else (if a2 = 1 then f_X10_move_43 a1 a2 a3 x2.2 else ((f_X10_fail 5 x2.2).bind fun x3 => some (x3.1, x3.2)))) else f_X10_move_22 x2.2)
theorem e_X10_move {Y : List (Nat × Nat)} (d : Nat) (a1 : Int) (a2 : Int) (a3 : Int) (M : AM) (x : Int) (N : AM) (h : f_X10_move a1 a2 a3 M = some (x, N)) : Ev Y (d + 1) m_X10_move 0 [some (vR 15 20 0), some (vI a1), some (vI a2), some (vI a3), none, none] [] M (some (vI x)) N := by
  unfold f_X10_move at h
  refine Z_blk k_X10_move 3 (pc' := 5) (lo' := [some (vR 15 20 0), some (vI a1), some (vI a2), some (vI a3), none, none]) (st' := [vI a1, vR 23 11 0]) (M1 := M) rfl ?_
  obtain ⟨x1, hx1, h⟩ := Option.bind_eq_some_iff.mp h
  refine Z_callV8 k_X10_move k_X1_isCouple rfl rfl (l_10_247) (ci := 1) rfl [vI a1] [] rfl rfl (Nat.le_of_ble_eq_true rfl) (Nat.le_of_ble_eq_true rfl) (e_X1_isCouple (d + 0) 23 a1 M _ _ hx1) ?_
  refine Z_if k_X10_move rfl 22 rfl (fun hc => ?_) (fun hc => ?_)
  · replace h := of_pos hc h
    refine Z_mask [true, false, false, false, false, false] (lo0 := [some (vR 15 20 0), none, none, none, none, none]) rfl ?_
    exact e_X10_move_22 d x1.2 _ _ h
  · replace h := of_neg hc h
    refine Z_blk k_X10_move 3 (pc' := 16) (lo' := [some (vR 15 20 0), some (vI a1), some (vI a2), some (vI a3), none, none]) (st' := [vI a3, vR 23 11 0]) (M1 := x1.2) rfl ?_
    obtain ⟨x2, hx2, h⟩ := Option.bind_eq_some_iff.mp h
    refine Z_callV8 k_X10_move k_X1_isRoom rfl rfl (l_10_287) (ci := 1) rfl [vI a3] [] rfl rfl (Nat.le_of_ble_eq_true rfl) (Nat.le_of_ble_eq_true rfl) (e_X1_isRoom (d + 0) 23 a3 x1.2 _ _ hx2) ?_
    refine Z_if k_X10_move rfl 28 rfl (fun hc => ?_) (fun hc => ?_)
    · replace h := of_pos hc h
      refine Z_blk k_X10_move 1 (pc' := 29) (lo' := [some (vR 15 20 0), some (vI a1), some (vI a2), some (vI a3), none, none]) (st' := [vI a2]) (M1 := x2.2) rfl ?_
      refine Z_if k_X10_move rfl 43 rfl (fun hc => ?_) (fun hc => ?_)
      · replace h := of_pos hc h
        refine Z_mask [true, true, true, true, false, false] (lo0 := [some (vR 15 20 0), some (vI a1), some (vI a2), some (vI a3), none, none]) rfl ?_
        exact e_X10_move_43 d a1 a2 a3 x2.2 _ _ h
      · replace h := of_neg hc h
        refine Z_blk k_X10_move 2 (pc' := 34) (lo' := [some (vR 15 20 0), some (vI a1), some (vI a2), some (vI a3), none, none]) (st' := [vI 1, vI a2]) (M1 := x2.2) rfl ?_
        refine Z_icmp k_X10_move rfl 43 rfl (fun hc => ?_) (fun hc => ?_)
        · replace h := of_pos hc h
          refine Z_mask [true, true, true, true, false, false] (lo0 := [some (vR 15 20 0), some (vI a1), some (vI a2), some (vI a3), none, none]) rfl ?_
          exact e_X10_move_43 d a1 a2 a3 x2.2 _ _ h
        · replace h := of_neg hc h
          refine Z_blk k_X10_move 2 (pc' := 39) (lo' := [some (vR 15 20 0), some (vI a1), some (vI a2), some (vI a3), none, none]) (st' := [vI 5, vR 15 20 0]) (M1 := x2.2) rfl ?_
          obtain ⟨x3, hx3, h⟩ := Option.bind_eq_some_iff.mp h
          refine Z_callV8 k_X10_move k_X10_fail rfl rfl (l_10_130) (ci := 10) rfl [vI 5] [] rfl rfl (Nat.le_of_ble_eq_true rfl) (Nat.le_of_ble_eq_true rfl) (e_X10_fail (d + 0) 5 x2.2 _ _ hx3) ?_
          cases h
          exact Z_ret ⟨Or.inl rfl, _, rfl⟩ rfl
    · replace h := of_neg hc h
      refine Z_mask [true, false, false, false, false, false] (lo0 := [some (vR 15 20 0), none, none, none, none, none]) rfl ?_
      exact e_X10_move_22 d x2.2 _ _ h
def f_X10_wed_28 (M : AM) : Option (Int × AM) := (f_X10_refuse 5 M).bind fun x1 => if x1.1 = 0 ∨ x1.1 = 1 then some (x1.1, x1.2) else none
theorem e_X10_wed_28 {Y : List (Nat × Nat)} (d : Nat) (M : AM) (x : Int) (N : AM) (h : f_X10_wed_28 M = some (x, N)) : Ev Y (d + 1) m_X10_wed 28 [some (vR 15 20 0), none, none] [] M (some (vI x)) N := by
  unfold f_X10_wed_28 at h
  refine Z_blk k_X10_wed 2 (pc' := 30) (lo' := [some (vR 15 20 0), none, none]) (st' := [vI 5, vR 15 20 0]) (M1 := M) rfl ?_
  obtain ⟨x1, hx1, h⟩ := Option.bind_eq_some_iff.mp h
  refine Z_callV8 k_X10_wed k_X10_refuse rfl rfl (l_10_111) (ci := 10) rfl [vI 5] [] rfl rfl (Nat.le_of_ble_eq_true rfl) (Nat.le_of_ble_eq_true rfl) (e_X10_refuse (d + 0) 5 M _ _ hx1) ?_
  obtain ⟨hc2, h⟩ := of_grd h
  cases h
  exact Z_ret ⟨Or.inr ⟨rfl, hc2⟩, _, rfl⟩ rfl
def f_X10_wed (a1 : Int) (a2 : Int) (M : AM) : Option (Int × AM) := (f_X1_isCouple 23 a1 M).bind fun x1 => if ¬ x1.1 = 0 then (if a2 < 1 then f_X10_wed_28 x1.2 else (if a2 ≤ 9 then (if 0 ≤ a1 ∧ a1 < 6 then (zlet (am_upd x1.2 29 (Int.toNat a1) a2) fun M3 => zlet (am_upd M3 23 8 (o_or (M3 23 8) (o_shl 1 a1))) fun M4 => (f_X10_agree M4).bind fun x5 => if x5.1 = 0 ∨ x5.1 = 1 then some (x5.1, x5.2) else none) else none) else f_X10_wed_28 x1.2)) else ((f_X10_refuse 2 x1.2).bind fun x7 => if x7.1 = 0 ∨ x7.1 = 1 then some (x7.1, x7.2) else none)
theorem e_X10_wed {Y : List (Nat × Nat)} (d : Nat) (a1 : Int) (a2 : Int) (M : AM) (x : Int) (N : AM) (h : f_X10_wed a1 a2 M = some (x, N)) : Ev Y (d + 1) m_X10_wed 0 [some (vR 15 20 0), some (vI a1), some (vI a2)] [] M (some (vI x)) N := by
  unfold f_X10_wed at h
  refine Z_blk k_X10_wed 3 (pc' := 5) (lo' := [some (vR 15 20 0), some (vI a1), some (vI a2)]) (st' := [vI a1, vR 23 11 0]) (M1 := M) rfl ?_
  obtain ⟨x1, hx1, h⟩ := Option.bind_eq_some_iff.mp h
  refine Z_callV8 k_X10_wed k_X1_isCouple rfl rfl (l_10_247) (ci := 1) rfl [vI a1] [] rfl rfl (Nat.le_of_ble_eq_true rfl) (Nat.le_of_ble_eq_true rfl) (e_X1_isCouple (d + 0) 23 a1 M _ _ hx1) ?_
  refine Z_if k_X10_wed rfl 17 rfl (fun hc => ?_) (fun hc => ?_)
  · replace h := of_pos hc h
    refine Z_blk k_X10_wed 2 (pc' := 19) (lo' := [some (vR 15 20 0), some (vI a1), some (vI a2)]) (st' := [vI 1, vI a2]) (M1 := x1.2) rfl ?_
    refine Z_icmp k_X10_wed rfl 28 rfl (fun hc => ?_) (fun hc => ?_)
    · replace h := of_pos hc h
      refine Z_mask [true, false, false] (lo0 := [some (vR 15 20 0), none, none]) rfl ?_
      exact e_X10_wed_28 d x1.2 _ _ h
    · replace h := of_neg hc h
      refine Z_blk k_X10_wed 2 (pc' := 25) (lo' := [some (vR 15 20 0), some (vI a1), some (vI a2)]) (st' := [vI 9, vI a2]) (M1 := x1.2) rfl ?_
      refine Z_icmp k_X10_wed rfl 34 rfl (fun hc => ?_) (fun hc => ?_)
      · replace h := of_pos hc h
        refine Z_blk k_X10_wed 5 (pc' := 43) (lo' := [some (vR 15 20 0), some (vI a1), some (vI a2)]) (st' := [vI a2, vI a1, vR 29 0 6]) (M1 := x1.2) rfl ?_
        obtain ⟨hc2, h⟩ := of_grd h
        obtain ⟨M3, eM3, h⟩ := of_zlet h
        refine Z_one k_X10_wed rfl (pc' := 44) (lo' := [some (vR 15 20 0), some (vI a1), some (vI a2)]) (st' := []) (M1 := M3) (by rw [eM3]; exact if_pos hc2) ?_
        obtain ⟨M4, eM4, h⟩ := of_zlet h
        refine Z_blk k_X10_wed 9 (pc' := 59) (lo' := [some (vR 15 20 0), some (vI a1), some (vI a2)]) (st' := []) (M1 := M4) (by rw [eM4]; rfl) ?_
        refine Z_blk k_X10_wed 1 (pc' := 60) (lo' := [some (vR 15 20 0), some (vI a1), some (vI a2)]) (st' := [vR 15 20 0]) (M1 := M4) rfl ?_
        obtain ⟨x5, hx5, h⟩ := Option.bind_eq_some_iff.mp h
        refine Z_callV8 k_X10_wed k_X10_agree rfl rfl (l_10_118) (ci := 10) rfl [] [] rfl rfl (Nat.le_of_ble_eq_true rfl) (Nat.le_of_ble_eq_true rfl) (e_X10_agree (d + 0) M4 _ _ hx5) ?_
        obtain ⟨hc6, h⟩ := of_grd h
        cases h
        exact Z_ret ⟨Or.inr ⟨rfl, hc6⟩, _, rfl⟩ rfl
      · replace h := of_neg hc h
        refine Z_mask [true, false, false] (lo0 := [some (vR 15 20 0), none, none]) rfl ?_
        exact e_X10_wed_28 d x1.2 _ _ h
  · replace h := of_neg hc h
    refine Z_blk k_X10_wed 2 (pc' := 13) (lo' := [some (vR 15 20 0), some (vI a1), some (vI a2)]) (st' := [vI 2, vR 15 20 0]) (M1 := x1.2) rfl ?_
    obtain ⟨x7, hx7, h⟩ := Option.bind_eq_some_iff.mp h
    refine Z_callV8 k_X10_wed k_X10_refuse rfl rfl (l_10_111) (ci := 10) rfl [vI 2] [] rfl rfl (Nat.le_of_ble_eq_true rfl) (Nat.le_of_ble_eq_true rfl) (e_X10_refuse (d + 0) 2 x1.2 _ _ hx7) ?_
    obtain ⟨hc8, h⟩ := of_grd h
    cases h
    exact Z_ret ⟨Or.inr ⟨rfl, hc8⟩, _, rfl⟩ rfl
def f_X10_divorce (a1 : Int) (M : AM) : Option (Int × AM) := (f_X1_isCouple 23 a1 M).bind fun x1 => if ¬ x1.1 = 0 then ((f_X1_isHolding 23 a1 x1.2).bind fun x2 => if ¬ x2.1 = 0 then (if 0 ≤ a1 ∧ a1 < 6 then (zlet (am_upd x2.2 29 (Int.toNat a1) 0) fun M4 => zlet (am_upd M4 23 8 (o_and (M4 23 8) (o_xor (o_shl 1 a1) (-1)))) fun M5 => (f_X10_answer (x2.2 29 (Int.toNat a1)) M5).bind fun x6 => some (x6.1, x6.2)) else none) else ((f_X10_fail 9 x2.2).bind fun x7 => some (x7.1, x7.2))) else ((f_X10_fail 2 x1.2).bind fun x8 => some (x8.1, x8.2))
theorem e_X10_divorce {Y : List (Nat × Nat)} (d : Nat) (a1 : Int) (M : AM) (x : Int) (N : AM) (h : f_X10_divorce a1 M = some (x, N)) : Ev Y (d + 1) m_X10_divorce 0 [some (vR 15 20 0), some (vI a1), none] [] M (some (vI x)) N := by
  unfold f_X10_divorce at h
  refine Z_blk k_X10_divorce 3 (pc' := 5) (lo' := [some (vR 15 20 0), some (vI a1), none]) (st' := [vI a1, vR 23 11 0]) (M1 := M) rfl ?_
  obtain ⟨x1, hx1, h⟩ := Option.bind_eq_some_iff.mp h
  refine Z_callV8 k_X10_divorce k_X1_isCouple rfl rfl (l_10_247) (ci := 1) rfl [vI a1] [] rfl rfl (Nat.le_of_ble_eq_true rfl) (Nat.le_of_ble_eq_true rfl) (e_X1_isCouple (d + 0) 23 a1 M _ _ hx1) ?_
  refine Z_if k_X10_divorce rfl 17 rfl (fun hc => ?_) (fun hc => ?_)
  · replace h := of_pos hc h
    refine Z_blk k_X10_divorce 3 (pc' := 22) (lo' := [some (vR 15 20 0), some (vI a1), none]) (st' := [vI a1, vR 23 11 0]) (M1 := x1.2) rfl ?_
    obtain ⟨x2, hx2, h⟩ := Option.bind_eq_some_iff.mp h
    refine Z_callV8 k_X10_divorce k_X1_isHolding rfl rfl (l_10_259) (ci := 1) rfl [vI a1] [] rfl rfl (Nat.le_of_ble_eq_true rfl) (Nat.le_of_ble_eq_true rfl) (e_X1_isHolding (d + 0) 23 a1 x1.2 _ _ hx2) ?_
    refine Z_if k_X10_divorce rfl 35 rfl (fun hc => ?_) (fun hc => ?_)
    · replace h := of_pos hc h
      refine Z_blk k_X10_divorce 4 (pc' := 43) (lo' := [some (vR 15 20 0), some (vI a1), none]) (st' := [vI a1, vR 29 0 6]) (M1 := x2.2) rfl ?_
      obtain ⟨hc3, h⟩ := of_grd h
      refine Z_one k_X10_divorce rfl (pc' := 44) (lo' := [some (vR 15 20 0), some (vI a1), none]) (st' := [vI (x2.2 29 (Int.toNat a1))]) (M1 := x2.2) (if_pos hc3) ?_
      refine Z_blk k_X10_divorce 6 (pc' := 54) (lo' := [some (vR 15 20 0), some (vI a1), some (vI (x2.2 29 (Int.toNat a1)))]) (st' := [vI 0, vI a1, vR 29 0 6]) (M1 := x2.2) rfl ?_
      obtain ⟨M4, eM4, h⟩ := of_zlet h
      refine Z_one k_X10_divorce rfl (pc' := 55) (lo' := [some (vR 15 20 0), some (vI a1), some (vI (x2.2 29 (Int.toNat a1)))]) (st' := []) (M1 := M4) (by rw [eM4]; exact if_pos hc3) ?_
      obtain ⟨M5, eM5, h⟩ := of_zlet h
      refine Z_blk k_X10_divorce 11 (pc' := 72) (lo' := [some (vR 15 20 0), some (vI a1), some (vI (x2.2 29 (Int.toNat a1)))]) (st' := []) (M1 := M5) (by rw [eM5]; rfl) ?_
      refine Z_blk k_X10_divorce 2 (pc' := 74) (lo' := [some (vR 15 20 0), some (vI a1), some (vI (x2.2 29 (Int.toNat a1)))]) (st' := [vI (x2.2 29 (Int.toNat a1)), vR 15 20 0]) (M1 := M5) rfl ?_
      obtain ⟨x6, hx6, h⟩ := Option.bind_eq_some_iff.mp h
      refine Z_callV8 k_X10_divorce k_X10_answer rfl rfl (l_10_184) (ci := 10) rfl [vI (x2.2 29 (Int.toNat a1))] [] rfl rfl (Nat.le_of_ble_eq_true rfl) (Nat.le_of_ble_eq_true rfl) (e_X10_answer (d + 0) (x2.2 29 (Int.toNat a1)) M5 _ _ hx6) ?_
      cases h
      exact Z_ret ⟨Or.inl rfl, _, rfl⟩ rfl
    · replace h := of_neg hc h
      refine Z_blk k_X10_divorce 2 (pc' := 31) (lo' := [some (vR 15 20 0), some (vI a1), none]) (st' := [vI 9, vR 15 20 0]) (M1 := x2.2) rfl ?_
      obtain ⟨x7, hx7, h⟩ := Option.bind_eq_some_iff.mp h
      refine Z_callV8 k_X10_divorce k_X10_fail rfl rfl (l_10_130) (ci := 10) rfl [vI 9] [] rfl rfl (Nat.le_of_ble_eq_true rfl) (Nat.le_of_ble_eq_true rfl) (e_X10_fail (d + 0) 9 x2.2 _ _ hx7) ?_
      cases h
      exact Z_ret ⟨Or.inl rfl, _, rfl⟩ rfl
  · replace h := of_neg hc h
    refine Z_blk k_X10_divorce 2 (pc' := 13) (lo' := [some (vR 15 20 0), some (vI a1), none]) (st' := [vI 2, vR 15 20 0]) (M1 := x1.2) rfl ?_
    obtain ⟨x8, hx8, h⟩ := Option.bind_eq_some_iff.mp h
    refine Z_callV8 k_X10_divorce k_X10_fail rfl rfl (l_10_130) (ci := 10) rfl [vI 2] [] rfl rfl (Nat.le_of_ble_eq_true rfl) (Nat.le_of_ble_eq_true rfl) (e_X10_fail (d + 0) 2 x1.2 _ _ hx8) ?_
    cases h
    exact Z_ret ⟨Or.inl rfl, _, rfl⟩ rfl
def f_X10_rule_57 (M : AM) : Option (Int × AM) := (f_X10_refuse 5 M).bind fun x1 => if x1.1 = 0 ∨ x1.1 = 1 then some (x1.1, x1.2) else none
theorem e_X10_rule_57 {Y : List (Nat × Nat)} (d : Nat) (M : AM) (x : Int) (N : AM) (h : f_X10_rule_57 M = some (x, N)) : Ev Y (d + 1) m_X10_rule 57 [some (vR 15 20 0), none, none] [] M (some (vI x)) N := by
  unfold f_X10_rule_57 at h
  refine Z_blk k_X10_rule 2 (pc' := 59) (lo' := [some (vR 15 20 0), none, none]) (st' := [vI 5, vR 15 20 0]) (M1 := M) rfl ?_
  obtain ⟨x1, hx1, h⟩ := Option.bind_eq_some_iff.mp h
  refine Z_callV8 k_X10_rule k_X10_refuse rfl rfl (l_10_111) (ci := 10) rfl [vI 5] [] rfl rfl (Nat.le_of_ble_eq_true rfl) (Nat.le_of_ble_eq_true rfl) (e_X10_refuse (d + 0) 5 M _ _ hx1) ?_
  obtain ⟨hc2, h⟩ := of_grd h
  cases h
  exact Z_ret ⟨Or.inr ⟨rfl, hc2⟩, _, rfl⟩ rfl
def f_X10_rule_29 (a1 : Int) (a2 : Int) (M : AM) : Option (Int × AM) := if ¬ a1 = 4 then f_X10_rule_57 M else (if a2 < 0 then f_X10_rule_57 M else (if 16 < a2 then f_X10_rule_57 M else (zlet (am_upd M 23 1 a2) fun M1 => (f_X10_agree M1).bind fun x2 => if x2.1 = 0 ∨ x2.1 = 1 then some (x2.1, x2.2) else none)))
theorem e_X10_rule_29 {Y : List (Nat × Nat)} (d : Nat) (a1 : Int) (a2 : Int) (M : AM) (x : Int) (N : AM) (h : f_X10_rule_29 a1 a2 M = some (x, N)) : Ev Y (d + 1) m_X10_rule 29 [some (vR 15 20 0), some (vI a1), some (vI a2)] [] M (some (vI x)) N := by
  unfold f_X10_rule_29 at h
  refine Z_blk k_X10_rule 2 (pc' := 31) (lo' := [some (vR 15 20 0), some (vI a1), some (vI a2)]) (st' := [vI 4, vI a1]) (M1 := M) rfl ?_
  refine Z_icmp k_X10_rule rfl 57 rfl (fun hc => ?_) (fun hc => ?_)
  · replace h := of_pos hc h
    refine Z_mask [true, false, false] (lo0 := [some (vR 15 20 0), none, none]) rfl ?_
    exact e_X10_rule_57 d M _ _ h
  · replace h := of_neg hc h
    refine Z_blk k_X10_rule 1 (pc' := 35) (lo' := [some (vR 15 20 0), some (vI a1), some (vI a2)]) (st' := [vI a2]) (M1 := M) rfl ?_
    refine Z_if k_X10_rule rfl 57 rfl (fun hc => ?_) (fun hc => ?_)
    · replace h := of_pos hc h
      refine Z_mask [true, false, false] (lo0 := [some (vR 15 20 0), none, none]) rfl ?_
      exact e_X10_rule_57 d M _ _ h
    · replace h := of_neg hc h
      refine Z_blk k_X10_rule 2 (pc' := 41) (lo' := [some (vR 15 20 0), some (vI a1), some (vI a2)]) (st' := [vI 16, vI a2]) (M1 := M) rfl ?_
      refine Z_icmp k_X10_rule rfl 57 rfl (fun hc => ?_) (fun hc => ?_)
      · replace h := of_pos hc h
        refine Z_mask [true, false, false] (lo0 := [some (vR 15 20 0), none, none]) rfl ?_
        exact e_X10_rule_57 d M _ _ h
      · replace h := of_neg hc h
        obtain ⟨M1, eM1, h⟩ := of_zlet h
        refine Z_blk k_X10_rule 4 (pc' := 52) (lo' := [some (vR 15 20 0), some (vI a1), some (vI a2)]) (st' := []) (M1 := M1) (by rw [eM1]; rfl) ?_
        refine Z_blk k_X10_rule 1 (pc' := 53) (lo' := [some (vR 15 20 0), some (vI a1), some (vI a2)]) (st' := [vR 15 20 0]) (M1 := M1) rfl ?_
        obtain ⟨x2, hx2, h⟩ := Option.bind_eq_some_iff.mp h
        refine Z_callV8 k_X10_rule k_X10_agree rfl rfl (l_10_118) (ci := 10) rfl [] [] rfl rfl (Nat.le_of_ble_eq_true rfl) (Nat.le_of_ble_eq_true rfl) (e_X10_agree (d + 0) M1 _ _ hx2) ?_
        obtain ⟨hc3, h⟩ := of_grd h
        cases h
        exact Z_ret ⟨Or.inr ⟨rfl, hc3⟩, _, rfl⟩ rfl
def f_X10_rule (a1 : Int) (a2 : Int) (M : AM) : Option (Int × AM) := if ¬ a1 = 3 then f_X10_rule_29 a1 a2 M else (if a2 < 1 then f_X10_rule_29 a1 a2 M else (if 99 < a2 then f_X10_rule_29 a1 a2 M else (zlet (am_upd M 23 0 a2) fun M1 => (f_X10_agree M1).bind fun x2 => if x2.1 = 0 ∨ x2.1 = 1 then some (x2.1, x2.2) else none)))
theorem e_X10_rule {Y : List (Nat × Nat)} (d : Nat) (a1 : Int) (a2 : Int) (M : AM) (x : Int) (N : AM) (h : f_X10_rule a1 a2 M = some (x, N)) : Ev Y (d + 1) m_X10_rule 0 [some (vR 15 20 0), some (vI a1), some (vI a2)] [] M (some (vI x)) N := by
  unfold f_X10_rule at h
  refine Z_blk k_X10_rule 2 (pc' := 2) (lo' := [some (vR 15 20 0), some (vI a1), some (vI a2)]) (st' := [vI 3, vI a1]) (M1 := M) rfl ?_
  refine Z_icmp k_X10_rule rfl 29 rfl (fun hc => ?_) (fun hc => ?_)
  · replace h := of_pos hc h
    refine Z_mask [true, true, true] (lo0 := [some (vR 15 20 0), some (vI a1), some (vI a2)]) rfl ?_
    exact e_X10_rule_29 d a1 a2 M _ _ h
  · replace h := of_neg hc h
    refine Z_blk k_X10_rule 2 (pc' := 7) (lo' := [some (vR 15 20 0), some (vI a1), some (vI a2)]) (st' := [vI 1, vI a2]) (M1 := M) rfl ?_
    refine Z_icmp k_X10_rule rfl 29 rfl (fun hc => ?_) (fun hc => ?_)
    · replace h := of_pos hc h
      refine Z_mask [true, true, true] (lo0 := [some (vR 15 20 0), some (vI a1), some (vI a2)]) rfl ?_
      exact e_X10_rule_29 d a1 a2 M _ _ h
    · replace h := of_neg hc h
      refine Z_blk k_X10_rule 2 (pc' := 13) (lo' := [some (vR 15 20 0), some (vI a1), some (vI a2)]) (st' := [vI 99, vI a2]) (M1 := M) rfl ?_
      refine Z_icmp k_X10_rule rfl 29 rfl (fun hc => ?_) (fun hc => ?_)
      · replace h := of_pos hc h
        refine Z_mask [true, true, true] (lo0 := [some (vR 15 20 0), some (vI a1), some (vI a2)]) rfl ?_
        exact e_X10_rule_29 d a1 a2 M _ _ h
      · replace h := of_neg hc h
        obtain ⟨M1, eM1, h⟩ := of_zlet h
        refine Z_blk k_X10_rule 4 (pc' := 24) (lo' := [some (vR 15 20 0), some (vI a1), some (vI a2)]) (st' := []) (M1 := M1) (by rw [eM1]; rfl) ?_
        refine Z_blk k_X10_rule 1 (pc' := 25) (lo' := [some (vR 15 20 0), some (vI a1), some (vI a2)]) (st' := [vR 15 20 0]) (M1 := M1) rfl ?_
        obtain ⟨x2, hx2, h⟩ := Option.bind_eq_some_iff.mp h
        refine Z_callV8 k_X10_rule k_X10_agree rfl rfl (l_10_118) (ci := 10) rfl [] [] rfl rfl (Nat.le_of_ble_eq_true rfl) (Nat.le_of_ble_eq_true rfl) (e_X10_agree (d + 0) M1 _ _ hx2) ?_
        obtain ⟨hc3, h⟩ := of_grd h
        cases h
        exact Z_ret ⟨Or.inr ⟨rfl, hc3⟩, _, rfl⟩ rfl
theorem l_10_294 : zhas 4182 (Jvm.Cond.methodLink "BellPullHouse" 294 yX1_distance) = true := by decide +kernel
def f_X10_far_22 (M : AM) : Option (Int × AM) := (f_X10_fail 2 M).bind fun x1 => some (x1.1, x1.2)
theorem e_X10_far_22 {Y : List (Nat × Nat)} (d : Nat) (M : AM) (x : Int) (N : AM) (h : f_X10_far_22 M = some (x, N)) : Ev Y (d + 3) m_X10_far 22 [some (vR 15 20 0), none, none, none] [] M (some (vI x)) N := by
  unfold f_X10_far_22 at h
  refine Z_blk k_X10_far 2 (pc' := 24) (lo' := [some (vR 15 20 0), none, none, none]) (st' := [vI 2, vR 15 20 0]) (M1 := M) rfl ?_
  obtain ⟨x1, hx1, h⟩ := Option.bind_eq_some_iff.mp h
  refine Z_callV8 k_X10_far k_X10_fail rfl rfl (l_10_130) (ci := 10) rfl [vI 2] [] rfl rfl (Nat.le_of_ble_eq_true rfl) (Nat.le_of_ble_eq_true rfl) (e_X10_fail (d + 2) 2 M _ _ hx1) ?_
  cases h
  exact Z_ret ⟨Or.inl rfl, _, rfl⟩ rfl
def f_X10_far (a1 : Int) (a2 : Int) (M : AM) : Option (Int × AM) := (f_X1_isRoom 23 a1 M).bind fun x1 => if x1.1 = 0 then f_X10_far_22 x1.2 else ((f_X1_isRoom 23 a2 x1.2).bind fun x2 => if ¬ x2.1 = 0 then ((f_X1_distance 23 a1 a2 x2.2).bind fun x3 => if 1000 ≤ x3.1 then ((f_X10_fail 8 x3.2).bind fun x4 => some (x4.1, x4.2)) else ((f_X10_answer x3.1 x3.2).bind fun x5 => some (x5.1, x5.2))) else f_X10_far_22 x2.2)
theorem e_X10_far {Y : List (Nat × Nat)} (d : Nat) (a1 : Int) (a2 : Int) (M : AM) (x : Int) (N : AM) (h : f_X10_far a1 a2 M = some (x, N)) : Ev Y (d + 3) m_X10_far 0 [some (vR 15 20 0), some (vI a1), some (vI a2), none] [] M (some (vI x)) N := by
  unfold f_X10_far at h
  refine Z_blk k_X10_far 3 (pc' := 5) (lo' := [some (vR 15 20 0), some (vI a1), some (vI a2), none]) (st' := [vI a1, vR 23 11 0]) (M1 := M) rfl ?_
  obtain ⟨x1, hx1, h⟩ := Option.bind_eq_some_iff.mp h
  refine Z_callV8 k_X10_far k_X1_isRoom rfl rfl (l_10_287) (ci := 1) rfl [vI a1] [] rfl rfl (Nat.le_of_ble_eq_true rfl) (Nat.le_of_ble_eq_true rfl) (e_X1_isRoom (d + 2) 23 a1 M _ _ hx1) ?_
  refine Z_if k_X10_far rfl 22 rfl (fun hc => ?_) (fun hc => ?_)
  · replace h := of_pos hc h
    refine Z_mask [true, false, false, false] (lo0 := [some (vR 15 20 0), none, none, none]) rfl ?_
    exact e_X10_far_22 d x1.2 _ _ h
  · replace h := of_neg hc h
    refine Z_blk k_X10_far 3 (pc' := 16) (lo' := [some (vR 15 20 0), some (vI a1), some (vI a2), none]) (st' := [vI a2, vR 23 11 0]) (M1 := x1.2) rfl ?_
    obtain ⟨x2, hx2, h⟩ := Option.bind_eq_some_iff.mp h
    refine Z_callV8 k_X10_far k_X1_isRoom rfl rfl (l_10_287) (ci := 1) rfl [vI a2] [] rfl rfl (Nat.le_of_ble_eq_true rfl) (Nat.le_of_ble_eq_true rfl) (e_X1_isRoom (d + 2) 23 a2 x1.2 _ _ hx2) ?_
    refine Z_if k_X10_far rfl 28 rfl (fun hc => ?_) (fun hc => ?_)
    · replace h := of_pos hc h
      refine Z_blk k_X10_far 4 (pc' := 34) (lo' := [some (vR 15 20 0), some (vI a1), some (vI a2), none]) (st' := [vI a2, vI a1, vR 23 11 0]) (M1 := x2.2) rfl ?_
      obtain ⟨x3, hx3, h⟩ := Option.bind_eq_some_iff.mp h
      refine Z_callV8 k_X10_far k_X1_distance rfl rfl (l_10_294) (ci := 1) rfl [vI a1, vI a2] [] rfl rfl (Nat.le_of_ble_eq_true rfl) (Nat.le_of_ble_eq_true rfl) (e_X1_distance (d + 0) 23 a1 a2 x2.2 _ _ hx3) ?_
      refine Z_blk k_X10_far 3 (pc' := 42) (lo' := [some (vR 15 20 0), some (vI a1), some (vI a2), some (vI x3.1)]) (st' := [vI 1000, vI x3.1]) (M1 := x3.2) rfl ?_
      refine Z_icmp k_X10_far rfl 53 rfl (fun hc => ?_) (fun hc => ?_)
      · replace h := of_pos hc h
        refine Z_blk k_X10_far 2 (pc' := 56) (lo' := [some (vR 15 20 0), some (vI a1), some (vI a2), some (vI x3.1)]) (st' := [vI 8, vR 15 20 0]) (M1 := x3.2) rfl ?_
        obtain ⟨x4, hx4, h⟩ := Option.bind_eq_some_iff.mp h
        refine Z_callV8 k_X10_far k_X10_fail rfl rfl (l_10_130) (ci := 10) rfl [vI 8] [] rfl rfl (Nat.le_of_ble_eq_true rfl) (Nat.le_of_ble_eq_true rfl) (e_X10_fail (d + 2) 8 x3.2 _ _ hx4) ?_
        cases h
        exact Z_ret ⟨Or.inl rfl, _, rfl⟩ rfl
      · replace h := of_neg hc h
        refine Z_blk k_X10_far 2 (pc' := 47) (lo' := [some (vR 15 20 0), some (vI a1), some (vI a2), some (vI x3.1)]) (st' := [vI x3.1, vR 15 20 0]) (M1 := x3.2) rfl ?_
        obtain ⟨x5, hx5, h⟩ := Option.bind_eq_some_iff.mp h
        refine Z_callV8 k_X10_far k_X10_answer rfl rfl (l_10_184) (ci := 10) rfl [vI x3.1] [] rfl rfl (Nat.le_of_ble_eq_true rfl) (Nat.le_of_ble_eq_true rfl) (e_X10_answer (d + 2) x3.1 x3.2 _ _ hx5) ?_
        refine Z_blk k_X10_far 1 (pc' := 59) (lo' := [some (vR 15 20 0), some (vI a1), some (vI a2), some (vI x3.1)]) (st' := [vI x5.1]) (M1 := x5.2) rfl ?_
        cases h
        exact Z_ret ⟨Or.inl rfl, _, rfl⟩ rfl
    · replace h := of_neg hc h
      refine Z_mask [true, false, false, false] (lo0 := [some (vR 15 20 0), none, none, none]) rfl ?_
      exact e_X10_far_22 d x2.2 _ _ h
theorem l_10_297 : zhas 4187 (Jvm.Cond.methodLink "BellPullHouse" 297 yX1_heardSet) = true := by decide +kernel
def f_X10_heard (a1 : Int) (M : AM) : Option (Int × AM) := (f_X1_isRoom 23 a1 M).bind fun x1 => if x1.1 = 0 then ((f_X10_fail 2 x1.2).bind fun x2 => some (x2.1, x2.2)) else ((f_X1_heardSet 23 a1 x1.2).bind fun x3 => (f_X10_answer x3.1 x3.2).bind fun x4 => some (x4.1, x4.2))
theorem e_X10_heard {Y : List (Nat × Nat)} (d : Nat) (a1 : Int) (M : AM) (x : Int) (N : AM) (h : f_X10_heard a1 M = some (x, N)) : Ev Y (d + 4) m_X10_heard 0 [some (vR 15 20 0), some (vI a1)] [] M (some (vI x)) N := by
  unfold f_X10_heard at h
  refine Z_blk k_X10_heard 3 (pc' := 5) (lo' := [some (vR 15 20 0), some (vI a1)]) (st' := [vI a1, vR 23 11 0]) (M1 := M) rfl ?_
  obtain ⟨x1, hx1, h⟩ := Option.bind_eq_some_iff.mp h
  refine Z_callV8 k_X10_heard k_X1_isRoom rfl rfl (l_10_287) (ci := 1) rfl [vI a1] [] rfl rfl (Nat.le_of_ble_eq_true rfl) (Nat.le_of_ble_eq_true rfl) (e_X1_isRoom (d + 3) 23 a1 M _ _ hx1) ?_
  refine Z_if k_X10_heard rfl 26 rfl (fun hc => ?_) (fun hc => ?_)
  · replace h := of_pos hc h
    refine Z_blk k_X10_heard 2 (pc' := 28) (lo' := [some (vR 15 20 0), some (vI a1)]) (st' := [vI 2, vR 15 20 0]) (M1 := x1.2) rfl ?_
    obtain ⟨x2, hx2, h⟩ := Option.bind_eq_some_iff.mp h
    refine Z_callV8 k_X10_heard k_X10_fail rfl rfl (l_10_130) (ci := 10) rfl [vI 2] [] rfl rfl (Nat.le_of_ble_eq_true rfl) (Nat.le_of_ble_eq_true rfl) (e_X10_fail (d + 3) 2 x1.2 _ _ hx2) ?_
    cases h
    exact Z_ret ⟨Or.inl rfl, _, rfl⟩ rfl
  · replace h := of_neg hc h
    refine Z_blk k_X10_heard 4 (pc' := 17) (lo' := [some (vR 15 20 0), some (vI a1)]) (st' := [vI a1, vR 23 11 0, vR 15 20 0]) (M1 := x1.2) rfl ?_
    obtain ⟨x3, hx3, h⟩ := Option.bind_eq_some_iff.mp h
    refine Z_callV8 k_X10_heard k_X1_heardSet rfl rfl (l_10_297) (ci := 1) rfl [vI a1] [vR 15 20 0] rfl rfl (Nat.le_of_ble_eq_true rfl) (Nat.le_of_ble_eq_true rfl) (e_X1_heardSet (d + 0) 23 a1 x1.2 _ _ hx3) ?_
    obtain ⟨x4, hx4, h⟩ := Option.bind_eq_some_iff.mp h
    refine Z_callV8 k_X10_heard k_X10_answer rfl rfl (l_10_184) (ci := 10) rfl [vI x3.1] [] rfl rfl (Nat.le_of_ble_eq_true rfl) (Nat.le_of_ble_eq_true rfl) (e_X10_answer (d + 3) x3.1 x3.2 _ _ hx4) ?_
    refine Z_blk k_X10_heard 1 (pc' := 31) (lo' := [some (vR 15 20 0), some (vI a1)]) (st' := [vI x4.1]) (M1 := x4.2) rfl ?_
    cases h
    exact Z_ret ⟨Or.inl rfl, _, rfl⟩ rfl
def f_X10_rings_21 : Nat → Int → Int → Int → AM → Option (Int × AM)
  | 0, _, _, _, _ => none
  | n + 1, a1, a2, a3, M => if M 23 4 ≤ a3 then ((f_X10_answer a2 M).bind fun x1 => some (x1.1, x1.2)) else (if 0 ≤ a1 ∧ a1 < 6 then (if 0 ≤ a3 ∧ a3 < 6 then ((f_X1_distance 23 (M 27 (Int.toNat a1)) (M 28 (Int.toNat a3)) M).bind fun x4 => if x4.2 23 0 < x4.1 then f_X10_rings_21 n a1 a2 (o_add a3 1) x4.2 else f_X10_rings_21 n a1 (o_or a2 (o_shl 1 a3)) (o_add a3 1) x4.2) else none) else none)
theorem e_X10_rings_21 {Y : List (Nat × Nat)} (d : Nat) : ∀ (n : Nat) (a1 : Int) (a2 : Int) (a3 : Int) (M : AM) (x : Int) (N : AM), f_X10_rings_21 n a1 a2 a3 M = some (x, N) → Ev Y (d + 3) m_X10_rings 21 [some (vR 15 20 0), some (vI a1), some (vI a2), some (vI a3)] [] M (some (vI x)) N := by
  intro n
  induction n with
  | zero => intro a1 a2 a3 M x N h; cases h
  | succ n ih =>
    intro a1 a2 a3 M x N h
    simp only [f_X10_rings_21] at h
    refine Z_blk k_X10_rings 4 (pc' := 29) (lo' := [some (vR 15 20 0), some (vI a1), some (vI a2), some (vI a3)]) (st' := [vI (M 23 4), vI a3]) (M1 := M) rfl ?_
    refine Z_icmp k_X10_rings rfl 79 rfl (fun hc => ?_) (fun hc => ?_)
    · replace h := of_pos hc h
      refine Z_blk k_X10_rings 2 (pc' := 81) (lo' := [some (vR 15 20 0), some (vI a1), some (vI a2), some (vI a3)]) (st' := [vI a2, vR 15 20 0]) (M1 := M) rfl ?_
      obtain ⟨x1, hx1, h⟩ := Option.bind_eq_some_iff.mp h
      refine Z_callV8 k_X10_rings k_X10_answer rfl rfl (l_10_184) (ci := 10) rfl [vI a2] [] rfl rfl (Nat.le_of_ble_eq_true rfl) (Nat.le_of_ble_eq_true rfl) (e_X10_answer (d + 2) a2 M _ _ hx1) ?_
      cases h
      exact Z_ret ⟨Or.inl rfl, _, rfl⟩ rfl
    · replace h := of_neg hc h
      refine Z_blk k_X10_rings 6 (pc' := 44) (lo' := [some (vR 15 20 0), some (vI a1), some (vI a2), some (vI a3)]) (st' := [vI a1, vR 27 0 6, vR 23 11 0]) (M1 := M) rfl ?_
      obtain ⟨hc2, h⟩ := of_grd h
      refine Z_one k_X10_rings rfl (pc' := 45) (lo' := [some (vR 15 20 0), some (vI a1), some (vI a2), some (vI a3)]) (st' := [vI (M 27 (Int.toNat a1)), vR 23 11 0]) (M1 := M) (if_pos hc2) ?_
      refine Z_blk k_X10_rings 4 (pc' := 53) (lo' := [some (vR 15 20 0), some (vI a1), some (vI a2), some (vI a3)]) (st' := [vI a3, vR 28 0 6, vI (M 27 (Int.toNat a1)), vR 23 11 0]) (M1 := M) rfl ?_
      obtain ⟨hc3, h⟩ := of_grd h
      refine Z_one k_X10_rings rfl (pc' := 54) (lo' := [some (vR 15 20 0), some (vI a1), some (vI a2), some (vI a3)]) (st' := [vI (M 28 (Int.toNat a3)), vI (M 27 (Int.toNat a1)), vR 23 11 0]) (M1 := M) (if_pos hc3) ?_
      obtain ⟨x4, hx4, h⟩ := Option.bind_eq_some_iff.mp h
      refine Z_callV8 k_X10_rings k_X1_distance rfl rfl (l_10_294) (ci := 1) rfl [vI (M 27 (Int.toNat a1)), vI (M 28 (Int.toNat a3))] [] rfl rfl (Nat.le_of_ble_eq_true rfl) (Nat.le_of_ble_eq_true rfl) (e_X1_distance (d + 0) 23 (M 27 (Int.toNat a1)) (M 28 (Int.toNat a3)) M _ _ hx4) ?_
      refine Z_blk k_X10_rings 3 (pc' := 64) (lo' := [some (vR 15 20 0), some (vI a1), some (vI a2), some (vI a3)]) (st' := [vI (x4.2 23 0), vI x4.1]) (M1 := x4.2) rfl ?_
      refine Z_icmp k_X10_rings rfl 73 rfl (fun hc => ?_) (fun hc => ?_)
      · replace h := of_pos hc h
        refine Z_blk k_X10_rings 2 (pc' := 21) (lo' := [some (vR 15 20 0), some (vI a1), some (vI a2), some (vI (o_add a3 1))]) (st' := []) (M1 := x4.2) rfl ?_
        refine Z_mask [true, true, true, true] (lo0 := [some (vR 15 20 0), some (vI a1), some (vI a2), some (vI (o_add a3 1))]) rfl ?_
        exact ih a1 a2 (o_add a3 1) x4.2 _ _ h
      · replace h := of_neg hc h
        refine Z_blk k_X10_rings 8 (pc' := 21) (lo' := [some (vR 15 20 0), some (vI a1), some (vI (o_or a2 (o_shl 1 a3))), some (vI (o_add a3 1))]) (st' := []) (M1 := x4.2) rfl ?_
        refine Z_mask [true, true, true, true] (lo0 := [some (vR 15 20 0), some (vI a1), some (vI (o_or a2 (o_shl 1 a3))), some (vI (o_add a3 1))]) rfl ?_
        exact ih a1 (o_or a2 (o_shl 1 a3)) (o_add a3 1) x4.2 _ _ h
def f_X10_rings (a1 : Int) (M : AM) : Option (Int × AM) := (f_X1_isCouple 23 a1 M).bind fun x1 => if ¬ x1.1 = 0 then f_X10_rings_21 zB a1 0 0 x1.2 else ((f_X10_fail 2 x1.2).bind fun x2 => some (x2.1, x2.2))
theorem e_X10_rings {Y : List (Nat × Nat)} (d : Nat) (a1 : Int) (M : AM) (x : Int) (N : AM) (h : f_X10_rings a1 M = some (x, N)) : Ev Y (d + 3) m_X10_rings 0 [some (vR 15 20 0), some (vI a1), none, none] [] M (some (vI x)) N := by
  unfold f_X10_rings at h
  refine Z_blk k_X10_rings 3 (pc' := 5) (lo' := [some (vR 15 20 0), some (vI a1), none, none]) (st' := [vI a1, vR 23 11 0]) (M1 := M) rfl ?_
  obtain ⟨x1, hx1, h⟩ := Option.bind_eq_some_iff.mp h
  refine Z_callV8 k_X10_rings k_X1_isCouple rfl rfl (l_10_247) (ci := 1) rfl [vI a1] [] rfl rfl (Nat.le_of_ble_eq_true rfl) (Nat.le_of_ble_eq_true rfl) (e_X1_isCouple (d + 2) 23 a1 M _ _ hx1) ?_
  refine Z_if k_X10_rings rfl 17 rfl (fun hc => ?_) (fun hc => ?_)
  · replace h := of_pos hc h
    refine Z_blk k_X10_rings 4 (pc' := 21) (lo' := [some (vR 15 20 0), some (vI a1), some (vI 0), some (vI 0)]) (st' := []) (M1 := x1.2) rfl ?_
    refine Z_mask [true, true, true, true] (lo0 := [some (vR 15 20 0), some (vI a1), some (vI 0), some (vI 0)]) rfl ?_
    exact e_X10_rings_21 d zB a1 0 0 x1.2 _ _ h
  · replace h := of_neg hc h
    refine Z_blk k_X10_rings 2 (pc' := 13) (lo' := [some (vR 15 20 0), some (vI a1), none, none]) (st' := [vI 2, vR 15 20 0]) (M1 := x1.2) rfl ?_
    obtain ⟨x2, hx2, h⟩ := Option.bind_eq_some_iff.mp h
    refine Z_callV8 k_X10_rings k_X10_fail rfl rfl (l_10_130) (ci := 10) rfl [vI 2] [] rfl rfl (Nat.le_of_ble_eq_true rfl) (Nat.le_of_ble_eq_true rfl) (e_X10_fail (d + 2) 2 x1.2 _ _ hx2) ?_
    cases h
    exact Z_ret ⟨Or.inl rfl, _, rfl⟩ rfl
theorem l_10_300 : zhas 4199 (Jvm.Cond.methodLink "BellPullHouse" 300 yX1_answerOf) = true := by decide +kernel
def f_X10_answers (a1 : Int) (M : AM) : Option (Int × AM) := (f_X1_isCouple 23 a1 M).bind fun x1 => if ¬ x1.1 = 0 then ((f_X1_answerOf 23 a1 x1.2).bind fun x2 => if ¬ x2.1 = (-1) then ((f_X1_isHolding 23 a1 x2.2).bind fun x3 => if x3.1 = 0 then ((f_X10_fail 9 x3.2).bind fun x4 => some (x4.1, x4.2)) else ((f_X10_answer x2.1 x3.2).bind fun x5 => some (x5.1, x5.2))) else ((f_X10_fail 8 x2.2).bind fun x6 => some (x6.1, x6.2))) else ((f_X10_fail 2 x1.2).bind fun x7 => some (x7.1, x7.2))
theorem e_X10_answers {Y : List (Nat × Nat)} (d : Nat) (a1 : Int) (M : AM) (x : Int) (N : AM) (h : f_X10_answers a1 M = some (x, N)) : Ev Y (d + 3) m_X10_answers 0 [some (vR 15 20 0), some (vI a1), none] [] M (some (vI x)) N := by
  unfold f_X10_answers at h
  refine Z_blk k_X10_answers 3 (pc' := 5) (lo' := [some (vR 15 20 0), some (vI a1), none]) (st' := [vI a1, vR 23 11 0]) (M1 := M) rfl ?_
  obtain ⟨x1, hx1, h⟩ := Option.bind_eq_some_iff.mp h
  refine Z_callV8 k_X10_answers k_X1_isCouple rfl rfl (l_10_247) (ci := 1) rfl [vI a1] [] rfl rfl (Nat.le_of_ble_eq_true rfl) (Nat.le_of_ble_eq_true rfl) (e_X1_isCouple (d + 2) 23 a1 M _ _ hx1) ?_
  refine Z_if k_X10_answers rfl 17 rfl (fun hc => ?_) (fun hc => ?_)
  · replace h := of_pos hc h
    refine Z_blk k_X10_answers 3 (pc' := 22) (lo' := [some (vR 15 20 0), some (vI a1), none]) (st' := [vI a1, vR 23 11 0]) (M1 := x1.2) rfl ?_
    obtain ⟨x2, hx2, h⟩ := Option.bind_eq_some_iff.mp h
    refine Z_callV8 k_X10_answers k_X1_answerOf rfl rfl (l_10_300) (ci := 1) rfl [vI a1] [] rfl rfl (Nat.le_of_ble_eq_true rfl) (Nat.le_of_ble_eq_true rfl) (e_X1_answerOf (d + 0) 23 a1 x1.2 _ _ hx2) ?_
    refine Z_blk k_X10_answers 3 (pc' := 28) (lo' := [some (vR 15 20 0), some (vI a1), some (vI x2.1)]) (st' := [vI (-1), vI x2.1]) (M1 := x2.2) rfl ?_
    refine Z_icmp k_X10_answers rfl 38 rfl (fun hc => ?_) (fun hc => ?_)
    · replace h := of_pos hc h
      refine Z_blk k_X10_answers 3 (pc' := 43) (lo' := [some (vR 15 20 0), some (vI a1), some (vI x2.1)]) (st' := [vI a1, vR 23 11 0]) (M1 := x2.2) rfl ?_
      obtain ⟨x3, hx3, h⟩ := Option.bind_eq_some_iff.mp h
      refine Z_callV8 k_X10_answers k_X1_isHolding rfl rfl (l_10_259) (ci := 1) rfl [vI a1] [] rfl rfl (Nat.le_of_ble_eq_true rfl) (Nat.le_of_ble_eq_true rfl) (e_X1_isHolding (d + 2) 23 a1 x2.2 _ _ hx3) ?_
      refine Z_if k_X10_answers rfl 57 rfl (fun hc => ?_) (fun hc => ?_)
      · replace h := of_pos hc h
        refine Z_blk k_X10_answers 2 (pc' := 60) (lo' := [some (vR 15 20 0), some (vI a1), some (vI x2.1)]) (st' := [vI 9, vR 15 20 0]) (M1 := x3.2) rfl ?_
        obtain ⟨x4, hx4, h⟩ := Option.bind_eq_some_iff.mp h
        refine Z_callV8 k_X10_answers k_X10_fail rfl rfl (l_10_130) (ci := 10) rfl [vI 9] [] rfl rfl (Nat.le_of_ble_eq_true rfl) (Nat.le_of_ble_eq_true rfl) (e_X10_fail (d + 2) 9 x3.2 _ _ hx4) ?_
        cases h
        exact Z_ret ⟨Or.inl rfl, _, rfl⟩ rfl
      · replace h := of_neg hc h
        refine Z_blk k_X10_answers 2 (pc' := 51) (lo' := [some (vR 15 20 0), some (vI a1), some (vI x2.1)]) (st' := [vI x2.1, vR 15 20 0]) (M1 := x3.2) rfl ?_
        obtain ⟨x5, hx5, h⟩ := Option.bind_eq_some_iff.mp h
        refine Z_callV8 k_X10_answers k_X10_answer rfl rfl (l_10_184) (ci := 10) rfl [vI x2.1] [] rfl rfl (Nat.le_of_ble_eq_true rfl) (Nat.le_of_ble_eq_true rfl) (e_X10_answer (d + 2) x2.1 x3.2 _ _ hx5) ?_
        refine Z_blk k_X10_answers 1 (pc' := 63) (lo' := [some (vR 15 20 0), some (vI a1), some (vI x2.1)]) (st' := [vI x5.1]) (M1 := x5.2) rfl ?_
        cases h
        exact Z_ret ⟨Or.inl rfl, _, rfl⟩ rfl
    · replace h := of_neg hc h
      refine Z_blk k_X10_answers 2 (pc' := 34) (lo' := [some (vR 15 20 0), some (vI a1), some (vI x2.1)]) (st' := [vI 8, vR 15 20 0]) (M1 := x2.2) rfl ?_
      obtain ⟨x6, hx6, h⟩ := Option.bind_eq_some_iff.mp h
      refine Z_callV8 k_X10_answers k_X10_fail rfl rfl (l_10_130) (ci := 10) rfl [vI 8] [] rfl rfl (Nat.le_of_ble_eq_true rfl) (Nat.le_of_ble_eq_true rfl) (e_X10_fail (d + 2) 8 x2.2 _ _ hx6) ?_
      cases h
      exact Z_ret ⟨Or.inl rfl, _, rfl⟩ rfl
  · replace h := of_neg hc h
    refine Z_blk k_X10_answers 2 (pc' := 13) (lo' := [some (vR 15 20 0), some (vI a1), none]) (st' := [vI 2, vR 15 20 0]) (M1 := x1.2) rfl ?_
    obtain ⟨x7, hx7, h⟩ := Option.bind_eq_some_iff.mp h
    refine Z_callV8 k_X10_answers k_X10_fail rfl rfl (l_10_130) (ci := 10) rfl [vI 2] [] rfl rfl (Nat.le_of_ble_eq_true rfl) (Nat.le_of_ble_eq_true rfl) (e_X10_fail (d + 2) 2 x1.2 _ _ hx7) ?_
    cases h
    exact Z_ret ⟨Or.inl rfl, _, rfl⟩ rfl
theorem l_10_303 : zhas 4204 (Jvm.Cond.methodLink "BellPullHouse" 303 yX1_nextOnWay) = true := by decide +kernel
def f_X10_way_22 (M : AM) : Option (Int × AM) := (f_X10_fail 2 M).bind fun x1 => some (x1.1, x1.2)
theorem e_X10_way_22 {Y : List (Nat × Nat)} (d : Nat) (M : AM) (x : Int) (N : AM) (h : f_X10_way_22 M = some (x, N)) : Ev Y (d + 4) m_X10_way 22 [some (vR 15 20 0), none, none, none, none, none] [] M (some (vI x)) N := by
  unfold f_X10_way_22 at h
  refine Z_blk k_X10_way 2 (pc' := 24) (lo' := [some (vR 15 20 0), none, none, none, none, none]) (st' := [vI 2, vR 15 20 0]) (M1 := M) rfl ?_
  obtain ⟨x1, hx1, h⟩ := Option.bind_eq_some_iff.mp h
  refine Z_callV8 k_X10_way k_X10_fail rfl rfl (l_10_130) (ci := 10) rfl [vI 2] [] rfl rfl (Nat.le_of_ble_eq_true rfl) (Nat.le_of_ble_eq_true rfl) (e_X10_fail (d + 3) 2 M _ _ hx1) ?_
  cases h
  exact Z_ret ⟨Or.inl rfl, _, rfl⟩ rfl
def f_X10_way_53 (M : AM) : Option (Int × AM) := (f_X10_fail 8 M).bind fun x1 => some (x1.1, x1.2)
theorem e_X10_way_53 {Y : List (Nat × Nat)} (d : Nat) (M : AM) (x : Int) (N : AM) (h : f_X10_way_53 M = some (x, N)) : Ev Y (d + 4) m_X10_way 53 [some (vR 15 20 0), none, none, none, none, none] [] M (some (vI x)) N := by
  unfold f_X10_way_53 at h
  refine Z_blk k_X10_way 2 (pc' := 56) (lo' := [some (vR 15 20 0), none, none, none, none, none]) (st' := [vI 8, vR 15 20 0]) (M1 := M) rfl ?_
  obtain ⟨x1, hx1, h⟩ := Option.bind_eq_some_iff.mp h
  refine Z_callV8 k_X10_way k_X10_fail rfl rfl (l_10_130) (ci := 10) rfl [vI 8] [] rfl rfl (Nat.le_of_ble_eq_true rfl) (Nat.le_of_ble_eq_true rfl) (e_X10_fail (d + 3) 8 M _ _ hx1) ?_
  cases h
  exact Z_ret ⟨Or.inl rfl, _, rfl⟩ rfl
def f_X10_way_66 : Nat → Int → Int → Int → Int → AM → Option (Int × AM)
  | 0, _, _, _, _, _ => none
  | n + 1, a2, a3, a4, a5, M => if a3 ≤ a5 then ((f_X10_answer a4 M).bind fun x1 => some (x1.1, x1.2)) else (if ¬ a4 = a2 then ((f_X1_nextOnWay 23 a4 a2 M).bind fun x2 => f_X10_way_66 n a2 a3 x2.1 (o_add a5 1) x2.2) else ((f_X10_fail 8 M).bind fun x3 => some (x3.1, x3.2)))
theorem e_X10_way_66 {Y : List (Nat × Nat)} (d : Nat) : ∀ (n : Nat) (a2 : Int) (a3 : Int) (a4 : Int) (a5 : Int) (M : AM) (x : Int) (N : AM), f_X10_way_66 n a2 a3 a4 a5 M = some (x, N) → Ev Y (d + 4) m_X10_way 66 [some (vR 15 20 0), none, some (vI a2), some (vI a3), some (vI a4), some (vI a5)] [] M (some (vI x)) N := by
  intro n
  induction n with
  | zero => intro a2 a3 a4 a5 M x N h; cases h
  | succ n ih =>
    intro a2 a3 a4 a5 M x N h
    simp only [f_X10_way_66] at h
    refine Z_blk k_X10_way 2 (pc' := 69) (lo' := [some (vR 15 20 0), none, some (vI a2), some (vI a3), some (vI a4), some (vI a5)]) (st' := [vI a3, vI a5]) (M1 := M) rfl ?_
    refine Z_icmp k_X10_way rfl 103 rfl (fun hc => ?_) (fun hc => ?_)
    · replace h := of_pos hc h
      refine Z_blk k_X10_way 2 (pc' := 106) (lo' := [some (vR 15 20 0), none, some (vI a2), some (vI a3), some (vI a4), some (vI a5)]) (st' := [vI a4, vR 15 20 0]) (M1 := M) rfl ?_
      obtain ⟨x1, hx1, h⟩ := Option.bind_eq_some_iff.mp h
      refine Z_callV8 k_X10_way k_X10_answer rfl rfl (l_10_184) (ci := 10) rfl [vI a4] [] rfl rfl (Nat.le_of_ble_eq_true rfl) (Nat.le_of_ble_eq_true rfl) (e_X10_answer (d + 3) a4 M _ _ hx1) ?_
      cases h
      exact Z_ret ⟨Or.inl rfl, _, rfl⟩ rfl
    · replace h := of_neg hc h
      refine Z_blk k_X10_way 2 (pc' := 75) (lo' := [some (vR 15 20 0), none, some (vI a2), some (vI a3), some (vI a4), some (vI a5)]) (st' := [vI a2, vI a4]) (M1 := M) rfl ?_
      refine Z_icmp k_X10_way rfl 85 rfl (fun hc => ?_) (fun hc => ?_)
      · replace h := of_pos hc h
        refine Z_blk k_X10_way 4 (pc' := 92) (lo' := [some (vR 15 20 0), none, some (vI a2), some (vI a3), some (vI a4), some (vI a5)]) (st' := [vI a2, vI a4, vR 23 11 0]) (M1 := M) rfl ?_
        obtain ⟨x2, hx2, h⟩ := Option.bind_eq_some_iff.mp h
        refine Z_callV8 k_X10_way k_X1_nextOnWay rfl rfl (l_10_303) (ci := 1) rfl [vI a4, vI a2] [] rfl rfl (Nat.le_of_ble_eq_true rfl) (Nat.le_of_ble_eq_true rfl) (e_X1_nextOnWay (d + 0) 23 a4 a2 M _ _ hx2) ?_
        refine Z_blk k_X10_way 3 (pc' := 66) (lo' := [some (vR 15 20 0), none, some (vI a2), some (vI a3), some (vI x2.1), some (vI (o_add a5 1))]) (st' := []) (M1 := x2.2) rfl ?_
        refine Z_mask [true, false, true, true, true, true] (lo0 := [some (vR 15 20 0), none, some (vI a2), some (vI a3), some (vI x2.1), some (vI (o_add a5 1))]) rfl ?_
        exact ih a2 a3 x2.1 (o_add a5 1) x2.2 _ _ h
      · replace h := of_neg hc h
        refine Z_blk k_X10_way 2 (pc' := 81) (lo' := [some (vR 15 20 0), none, some (vI a2), some (vI a3), some (vI a4), some (vI a5)]) (st' := [vI 8, vR 15 20 0]) (M1 := M) rfl ?_
        obtain ⟨x3, hx3, h⟩ := Option.bind_eq_some_iff.mp h
        refine Z_callV8 k_X10_way k_X10_fail rfl rfl (l_10_130) (ci := 10) rfl [vI 8] [] rfl rfl (Nat.le_of_ble_eq_true rfl) (Nat.le_of_ble_eq_true rfl) (e_X10_fail (d + 3) 8 M _ _ hx3) ?_
        cases h
        exact Z_ret ⟨Or.inl rfl, _, rfl⟩ rfl
def f_X10_way (a1 : Int) (a2 : Int) (a3 : Int) (M : AM) : Option (Int × AM) := (f_X1_isRoom 23 a1 M).bind fun x1 => if x1.1 = 0 then f_X10_way_22 x1.2 else ((f_X1_isRoom 23 a2 x1.2).bind fun x2 => if ¬ x2.1 = 0 then (if a3 < 0 then f_X10_way_53 x2.2 else (if 8 ≤ a3 then f_X10_way_53 x2.2 else ((f_X1_distance 23 a1 a2 x2.2).bind fun x3 => if x3.1 < 1000 then f_X10_way_66 zB a2 a3 a1 0 x3.2 else f_X10_way_53 x3.2))) else f_X10_way_22 x2.2)
theorem e_X10_way {Y : List (Nat × Nat)} (d : Nat) (a1 : Int) (a2 : Int) (a3 : Int) (M : AM) (x : Int) (N : AM) (h : f_X10_way a1 a2 a3 M = some (x, N)) : Ev Y (d + 4) m_X10_way 0 [some (vR 15 20 0), some (vI a1), some (vI a2), some (vI a3), none, none] [] M (some (vI x)) N := by
  unfold f_X10_way at h
  refine Z_blk k_X10_way 3 (pc' := 5) (lo' := [some (vR 15 20 0), some (vI a1), some (vI a2), some (vI a3), none, none]) (st' := [vI a1, vR 23 11 0]) (M1 := M) rfl ?_
  obtain ⟨x1, hx1, h⟩ := Option.bind_eq_some_iff.mp h
  refine Z_callV8 k_X10_way k_X1_isRoom rfl rfl (l_10_287) (ci := 1) rfl [vI a1] [] rfl rfl (Nat.le_of_ble_eq_true rfl) (Nat.le_of_ble_eq_true rfl) (e_X1_isRoom (d + 3) 23 a1 M _ _ hx1) ?_
  refine Z_if k_X10_way rfl 22 rfl (fun hc => ?_) (fun hc => ?_)
  · replace h := of_pos hc h
    refine Z_mask [true, false, false, false, false, false] (lo0 := [some (vR 15 20 0), none, none, none, none, none]) rfl ?_
    exact e_X10_way_22 d x1.2 _ _ h
  · replace h := of_neg hc h
    refine Z_blk k_X10_way 3 (pc' := 16) (lo' := [some (vR 15 20 0), some (vI a1), some (vI a2), some (vI a3), none, none]) (st' := [vI a2, vR 23 11 0]) (M1 := x1.2) rfl ?_
    obtain ⟨x2, hx2, h⟩ := Option.bind_eq_some_iff.mp h
    refine Z_callV8 k_X10_way k_X1_isRoom rfl rfl (l_10_287) (ci := 1) rfl [vI a2] [] rfl rfl (Nat.le_of_ble_eq_true rfl) (Nat.le_of_ble_eq_true rfl) (e_X1_isRoom (d + 3) 23 a2 x1.2 _ _ hx2) ?_
    refine Z_if k_X10_way rfl 28 rfl (fun hc => ?_) (fun hc => ?_)
    · replace h := of_pos hc h
      refine Z_blk k_X10_way 1 (pc' := 29) (lo' := [some (vR 15 20 0), some (vI a1), some (vI a2), some (vI a3), none, none]) (st' := [vI a3]) (M1 := x2.2) rfl ?_
      refine Z_if k_X10_way rfl 53 rfl (fun hc => ?_) (fun hc => ?_)
      · replace h := of_pos hc h
        refine Z_mask [true, false, false, false, false, false] (lo0 := [some (vR 15 20 0), none, none, none, none, none]) rfl ?_
        exact e_X10_way_53 d x2.2 _ _ h
      · replace h := of_neg hc h
        refine Z_blk k_X10_way 2 (pc' := 35) (lo' := [some (vR 15 20 0), some (vI a1), some (vI a2), some (vI a3), none, none]) (st' := [vI 8, vI a3]) (M1 := x2.2) rfl ?_
        refine Z_icmp k_X10_way rfl 53 rfl (fun hc => ?_) (fun hc => ?_)
        · replace h := of_pos hc h
          refine Z_mask [true, false, false, false, false, false] (lo0 := [some (vR 15 20 0), none, none, none, none, none]) rfl ?_
          exact e_X10_way_53 d x2.2 _ _ h
        · replace h := of_neg hc h
          refine Z_blk k_X10_way 4 (pc' := 44) (lo' := [some (vR 15 20 0), some (vI a1), some (vI a2), some (vI a3), none, none]) (st' := [vI a2, vI a1, vR 23 11 0]) (M1 := x2.2) rfl ?_
          obtain ⟨x3, hx3, h⟩ := Option.bind_eq_some_iff.mp h
          refine Z_callV8 k_X10_way k_X1_distance rfl rfl (l_10_294) (ci := 1) rfl [vI a1, vI a2] [] rfl rfl (Nat.le_of_ble_eq_true rfl) (Nat.le_of_ble_eq_true rfl) (e_X1_distance (d + 1) 23 a1 a2 x2.2 _ _ hx3) ?_
          refine Z_blk k_X10_way 1 (pc' := 50) (lo' := [some (vR 15 20 0), some (vI a1), some (vI a2), some (vI a3), none, none]) (st' := [vI 1000, vI x3.1]) (M1 := x3.2) rfl ?_
          refine Z_icmp k_X10_way rfl 60 rfl (fun hc => ?_) (fun hc => ?_)
          · replace h := of_pos hc h
            refine Z_blk k_X10_way 4 (pc' := 66) (lo' := [some (vR 15 20 0), some (vI a1), some (vI a2), some (vI a3), some (vI a1), some (vI 0)]) (st' := []) (M1 := x3.2) rfl ?_
            refine Z_mask [true, false, true, true, true, true] (lo0 := [some (vR 15 20 0), none, some (vI a2), some (vI a3), some (vI a1), some (vI 0)]) rfl ?_
            exact e_X10_way_66 d zB a2 a3 a1 0 x3.2 _ _ h
          · replace h := of_neg hc h
            refine Z_mask [true, false, false, false, false, false] (lo0 := [some (vR 15 20 0), none, none, none, none, none]) rfl ?_
            exact e_X10_way_53 d x3.2 _ _ h
    · replace h := of_neg hc h
      refine Z_mask [true, false, false, false, false, false] (lo0 := [some (vR 15 20 0), none, none, none, none, none]) rfl ?_
      exact e_X10_way_22 d x2.2 _ _ h
theorem l_10_306 : zhas 4216 (Jvm.Cond.methodLink "BellPullHouse" 306 yX1_isFirstOfPart) = true := by decide +kernel
def f_X10_parts_4 : Nat → Int → Int → AM → Option (Int × AM)
  | 0, _, _, _ => none
  | n + 1, a1, a2, M => if M 23 2 ≤ a2 then ((f_X10_answer a1 M).bind fun x1 => some (x1.1, x1.2)) else ((f_X1_isFirstOfPart 23 a2 M).bind fun x2 => if x2.1 = 0 then f_X10_parts_4 n a1 (o_add a2 1) x2.2 else f_X10_parts_4 n (o_add a1 1) (o_add a2 1) x2.2)
theorem e_X10_parts_4 {Y : List (Nat × Nat)} (d : Nat) : ∀ (n : Nat) (a1 : Int) (a2 : Int) (M : AM) (x : Int) (N : AM), f_X10_parts_4 n a1 a2 M = some (x, N) → Ev Y (d + 4) m_X10_parts 4 [some (vR 15 20 0), some (vI a1), some (vI a2)] [] M (some (vI x)) N := by
  intro n
  induction n with
  | zero => intro a1 a2 M x N h; cases h
  | succ n ih =>
    intro a1 a2 M x N h
    simp only [f_X10_parts_4] at h
    refine Z_blk k_X10_parts 4 (pc' := 12) (lo' := [some (vR 15 20 0), some (vI a1), some (vI a2)]) (st' := [vI (M 23 2), vI a2]) (M1 := M) rfl ?_
    refine Z_icmp k_X10_parts rfl 35 rfl (fun hc => ?_) (fun hc => ?_)
    · replace h := of_pos hc h
      refine Z_blk k_X10_parts 2 (pc' := 37) (lo' := [some (vR 15 20 0), some (vI a1), some (vI a2)]) (st' := [vI a1, vR 15 20 0]) (M1 := M) rfl ?_
      obtain ⟨x1, hx1, h⟩ := Option.bind_eq_some_iff.mp h
      refine Z_callV8 k_X10_parts k_X10_answer rfl rfl (l_10_184) (ci := 10) rfl [vI a1] [] rfl rfl (Nat.le_of_ble_eq_true rfl) (Nat.le_of_ble_eq_true rfl) (e_X10_answer (d + 3) a1 M _ _ hx1) ?_
      cases h
      exact Z_ret ⟨Or.inl rfl, _, rfl⟩ rfl
    · replace h := of_neg hc h
      refine Z_blk k_X10_parts 3 (pc' := 20) (lo' := [some (vR 15 20 0), some (vI a1), some (vI a2)]) (st' := [vI a2, vR 23 11 0]) (M1 := M) rfl ?_
      obtain ⟨x2, hx2, h⟩ := Option.bind_eq_some_iff.mp h
      refine Z_callV8 k_X10_parts k_X1_isFirstOfPart rfl rfl (l_10_306) (ci := 1) rfl [vI a2] [] rfl rfl (Nat.le_of_ble_eq_true rfl) (Nat.le_of_ble_eq_true rfl) (e_X1_isFirstOfPart (d + 0) 23 a2 M _ _ hx2) ?_
      refine Z_if k_X10_parts rfl 29 rfl (fun hc => ?_) (fun hc => ?_)
      · replace h := of_pos hc h
        refine Z_blk k_X10_parts 2 (pc' := 4) (lo' := [some (vR 15 20 0), some (vI a1), some (vI (o_add a2 1))]) (st' := []) (M1 := x2.2) rfl ?_
        refine Z_mask [true, true, true] (lo0 := [some (vR 15 20 0), some (vI a1), some (vI (o_add a2 1))]) rfl ?_
        exact ih a1 (o_add a2 1) x2.2 _ _ h
      · replace h := of_neg hc h
        refine Z_blk k_X10_parts 3 (pc' := 4) (lo' := [some (vR 15 20 0), some (vI (o_add a1 1)), some (vI (o_add a2 1))]) (st' := []) (M1 := x2.2) rfl ?_
        refine Z_mask [true, true, true] (lo0 := [some (vR 15 20 0), some (vI (o_add a1 1)), some (vI (o_add a2 1))]) rfl ?_
        exact ih (o_add a1 1) (o_add a2 1) x2.2 _ _ h
def f_X10_parts (M : AM) : Option (Int × AM) := f_X10_parts_4 zB 0 0 M
theorem e_X10_parts {Y : List (Nat × Nat)} (d : Nat) (M : AM) (x : Int) (N : AM) (h : f_X10_parts M = some (x, N)) : Ev Y (d + 4) m_X10_parts 0 [some (vR 15 20 0), none, none] [] M (some (vI x)) N := by
  unfold f_X10_parts at h
  refine Z_blk k_X10_parts 4 (pc' := 4) (lo' := [some (vR 15 20 0), some (vI 0), some (vI 0)]) (st' := []) (M1 := M) rfl ?_
  refine Z_mask [true, true, true] (lo0 := [some (vR 15 20 0), some (vI 0), some (vI 0)]) rfl ?_
  exact e_X10_parts_4 d zB 0 0 M _ _ h
def f_X10_lookAhead (a1 : Int) (M : AM) : Option (AM) := (f_X1_copyFrom 34 23 M).bind fun x1 => (f_X0_pass 61 34 a1 x1).bind fun x2 => some x2.2
theorem e_X10_lookAhead {Y : List (Nat × Nat)} (d : Nat) (a1 : Int) (M : AM) (N : AM) (h : f_X10_lookAhead a1 M = some N) : Ev Y (d + 5) m_X10_lookAhead 0 [some (vR 15 20 0), some (vI a1)] [] M none N := by
  unfold f_X10_lookAhead at h
  refine Z_blk k_X10_lookAhead 4 (pc' := 8) (lo' := [some (vR 15 20 0), some (vI a1)]) (st' := [vR 23 11 0, vR 34 11 0]) (M1 := M) rfl ?_
  obtain ⟨x1, hx1, h⟩ := Option.bind_eq_some_iff.mp h
  refine Z_callV8 k_X10_lookAhead k_X1_copyFrom rfl rfl (l_10_174) (ci := 1) rfl [vR 23 11 0] [] rfl rfl (Nat.le_of_ble_eq_true rfl) (Nat.le_of_ble_eq_true rfl) (e_X1_copyFrom (d + 4) 34 23 M _ hx1) ?_
  refine Z_blk k_X10_lookAhead 5 (pc' := 20) (lo' := [some (vR 15 20 0), some (vI a1)]) (st' := [vI a1, vR 34 11 0, vR 61 10 0]) (M1 := x1) rfl ?_
  obtain ⟨x2, hx2, h⟩ := Option.bind_eq_some_iff.mp h
  refine Z_callV8 k_X10_lookAhead k_X0_pass rfl rfl (l_10_271) (ci := 0) rfl [vR 34 11 0, vI a1] [] rfl rfl (Nat.le_of_ble_eq_true rfl) (Nat.le_of_ble_eq_true rfl) (e_X0_pass (d + 0) 61 34 a1 x1 _ _ hx2) ?_
  refine Z_blk k_X10_lookAhead 1 (pc' := 24) (lo' := [some (vR 15 20 0), some (vI a1)]) (st' := []) (M1 := x2.2) rfl ?_
  cases h
  exact Z_ret ⟨rfl, _, rfl⟩ rfl
theorem l_10_309 : zhas 4224 (Jvm.Cond.methodLink "BellPullHouse" 309 yX10_lookAhead) = true := by decide +kernel
def f_X10_loveIn_28 (M : AM) : Option (Int × AM) := (f_X10_fail 5 M).bind fun x1 => some (x1.1, x1.2)
theorem e_X10_loveIn_28 {Y : List (Nat × Nat)} (d : Nat) (M : AM) (x : Int) (N : AM) (h : f_X10_loveIn_28 M = some (x, N)) : Ev Y (d + 6) m_X10_loveIn 28 [some (vR 15 20 0), none, none] [] M (some (vI x)) N := by
  unfold f_X10_loveIn_28 at h
  refine Z_blk k_X10_loveIn 2 (pc' := 30) (lo' := [some (vR 15 20 0), none, none]) (st' := [vI 5, vR 15 20 0]) (M1 := M) rfl ?_
  obtain ⟨x1, hx1, h⟩ := Option.bind_eq_some_iff.mp h
  refine Z_callV8 k_X10_loveIn k_X10_fail rfl rfl (l_10_130) (ci := 10) rfl [vI 5] [] rfl rfl (Nat.le_of_ble_eq_true rfl) (Nat.le_of_ble_eq_true rfl) (e_X10_fail (d + 5) 5 M _ _ hx1) ?_
  cases h
  exact Z_ret ⟨Or.inl rfl, _, rfl⟩ rfl
def f_X10_loveIn (a1 : Int) (a2 : Int) (M : AM) : Option (Int × AM) := (f_X1_isCouple 23 a1 M).bind fun x1 => if ¬ x1.1 = 0 then (if a2 < 0 then f_X10_loveIn_28 x1.2 else (if a2 ≤ 300 then ((f_X10_lookAhead a2 x1.2).bind fun x2 => if 0 ≤ a1 ∧ a1 < 6 then ((f_X10_answer (x2 40 (Int.toNat a1)) x2).bind fun x4 => some (x4.1, x4.2)) else none) else f_X10_loveIn_28 x1.2)) else ((f_X10_fail 2 x1.2).bind fun x5 => some (x5.1, x5.2))
theorem e_X10_loveIn {Y : List (Nat × Nat)} (d : Nat) (a1 : Int) (a2 : Int) (M : AM) (x : Int) (N : AM) (h : f_X10_loveIn a1 a2 M = some (x, N)) : Ev Y (d + 6) m_X10_loveIn 0 [some (vR 15 20 0), some (vI a1), some (vI a2)] [] M (some (vI x)) N := by
  unfold f_X10_loveIn at h
  refine Z_blk k_X10_loveIn 3 (pc' := 5) (lo' := [some (vR 15 20 0), some (vI a1), some (vI a2)]) (st' := [vI a1, vR 23 11 0]) (M1 := M) rfl ?_
  obtain ⟨x1, hx1, h⟩ := Option.bind_eq_some_iff.mp h
  refine Z_callV8 k_X10_loveIn k_X1_isCouple rfl rfl (l_10_247) (ci := 1) rfl [vI a1] [] rfl rfl (Nat.le_of_ble_eq_true rfl) (Nat.le_of_ble_eq_true rfl) (e_X1_isCouple (d + 5) 23 a1 M _ _ hx1) ?_
  refine Z_if k_X10_loveIn rfl 17 rfl (fun hc => ?_) (fun hc => ?_)
  · replace h := of_pos hc h
    refine Z_blk k_X10_loveIn 1 (pc' := 18) (lo' := [some (vR 15 20 0), some (vI a1), some (vI a2)]) (st' := [vI a2]) (M1 := x1.2) rfl ?_
    refine Z_if k_X10_loveIn rfl 28 rfl (fun hc => ?_) (fun hc => ?_)
    · replace h := of_pos hc h
      refine Z_mask [true, false, false] (lo0 := [some (vR 15 20 0), none, none]) rfl ?_
      exact e_X10_loveIn_28 d x1.2 _ _ h
    · replace h := of_neg hc h
      refine Z_blk k_X10_loveIn 2 (pc' := 25) (lo' := [some (vR 15 20 0), some (vI a1), some (vI a2)]) (st' := [vI 300, vI a2]) (M1 := x1.2) rfl ?_
      refine Z_icmp k_X10_loveIn rfl 34 rfl (fun hc => ?_) (fun hc => ?_)
      · replace h := of_pos hc h
        refine Z_blk k_X10_loveIn 2 (pc' := 36) (lo' := [some (vR 15 20 0), some (vI a1), some (vI a2)]) (st' := [vI a2, vR 15 20 0]) (M1 := x1.2) rfl ?_
        obtain ⟨x2, hx2, h⟩ := Option.bind_eq_some_iff.mp h
        refine Z_callV8 k_X10_loveIn k_X10_lookAhead rfl rfl (l_10_309) (ci := 10) rfl [vI a2] [] rfl rfl (Nat.le_of_ble_eq_true rfl) (Nat.le_of_ble_eq_true rfl) (e_X10_lookAhead (d + 0) a2 x1.2 _ hx2) ?_
        refine Z_blk k_X10_loveIn 5 (pc' := 48) (lo' := [some (vR 15 20 0), some (vI a1), some (vI a2)]) (st' := [vI a1, vR 40 0 6, vR 15 20 0]) (M1 := x2) rfl ?_
        obtain ⟨hc3, h⟩ := of_grd h
        refine Z_one k_X10_loveIn rfl (pc' := 49) (lo' := [some (vR 15 20 0), some (vI a1), some (vI a2)]) (st' := [vI (x2 40 (Int.toNat a1)), vR 15 20 0]) (M1 := x2) (if_pos hc3) ?_
        obtain ⟨x4, hx4, h⟩ := Option.bind_eq_some_iff.mp h
        refine Z_callV8 k_X10_loveIn k_X10_answer rfl rfl (l_10_184) (ci := 10) rfl [vI (x2 40 (Int.toNat a1))] [] rfl rfl (Nat.le_of_ble_eq_true rfl) (Nat.le_of_ble_eq_true rfl) (e_X10_answer (d + 5) (x2 40 (Int.toNat a1)) x2 _ _ hx4) ?_
        cases h
        exact Z_ret ⟨Or.inl rfl, _, rfl⟩ rfl
      · replace h := of_neg hc h
        refine Z_mask [true, false, false] (lo0 := [some (vR 15 20 0), none, none]) rfl ?_
        exact e_X10_loveIn_28 d x1.2 _ _ h
  · replace h := of_neg hc h
    refine Z_blk k_X10_loveIn 2 (pc' := 13) (lo' := [some (vR 15 20 0), some (vI a1), some (vI a2)]) (st' := [vI 2, vR 15 20 0]) (M1 := x1.2) rfl ?_
    obtain ⟨x5, hx5, h⟩ := Option.bind_eq_some_iff.mp h
    refine Z_callV8 k_X10_loveIn k_X10_fail rfl rfl (l_10_130) (ci := 10) rfl [vI 2] [] rfl rfl (Nat.le_of_ble_eq_true rfl) (Nat.le_of_ble_eq_true rfl) (e_X10_fail (d + 5) 2 x1.2 _ _ hx5) ?_
    cases h
    exact Z_ret ⟨Or.inl rfl, _, rfl⟩ rfl
theorem l_10_312 : zhas 4232 (Jvm.Cond.methodLink "BellPullHouse" 312 yX0_passSpan) = true := by decide +kernel
def f_X10_partsIn_89 (a1 : Int) (a2 : Int) (M : AM) : Option (Int × AM) := (f_X1_isHolding 34 a1 M).bind fun x1 => if x1.1 = 0 then ((f_X10_answer a2 x1.2).bind fun x2 => some (x2.1, x2.2)) else ((f_X10_fail 8 x1.2).bind fun x3 => some (x3.1, x3.2))
theorem e_X10_partsIn_89 {Y : List (Nat × Nat)} (d : Nat) (a1 : Int) (a2 : Int) (M : AM) (x : Int) (N : AM) (h : f_X10_partsIn_89 a1 a2 M = some (x, N)) : Ev Y (d + 4) m_X10_partsIn 89 [some (vR 15 20 0), some (vI a1), some (vI a2), none] [] M (some (vI x)) N := by
  unfold f_X10_partsIn_89 at h
  refine Z_blk k_X10_partsIn 3 (pc' := 94) (lo' := [some (vR 15 20 0), some (vI a1), some (vI a2), none]) (st' := [vI a1, vR 34 11 0]) (M1 := M) rfl ?_
  obtain ⟨x1, hx1, h⟩ := Option.bind_eq_some_iff.mp h
  refine Z_callV8 k_X10_partsIn k_X1_isHolding rfl rfl (l_10_259) (ci := 1) rfl [vI a1] [] rfl rfl (Nat.le_of_ble_eq_true rfl) (Nat.le_of_ble_eq_true rfl) (e_X1_isHolding (d + 3) 34 a1 M _ _ hx1) ?_
  refine Z_if k_X10_partsIn rfl 109 rfl (fun hc => ?_) (fun hc => ?_)
  · replace h := of_pos hc h
    refine Z_blk k_X10_partsIn 2 (pc' := 111) (lo' := [some (vR 15 20 0), some (vI a1), some (vI a2), none]) (st' := [vI a2, vR 15 20 0]) (M1 := x1.2) rfl ?_
    obtain ⟨x2, hx2, h⟩ := Option.bind_eq_some_iff.mp h
    refine Z_callV8 k_X10_partsIn k_X10_answer rfl rfl (l_10_184) (ci := 10) rfl [vI a2] [] rfl rfl (Nat.le_of_ble_eq_true rfl) (Nat.le_of_ble_eq_true rfl) (e_X10_answer (d + 3) a2 x1.2 _ _ hx2) ?_
    cases h
    exact Z_ret ⟨Or.inl rfl, _, rfl⟩ rfl
  · replace h := of_neg hc h
    refine Z_blk k_X10_partsIn 2 (pc' := 103) (lo' := [some (vR 15 20 0), some (vI a1), some (vI a2), none]) (st' := [vI 8, vR 15 20 0]) (M1 := x1.2) rfl ?_
    obtain ⟨x3, hx3, h⟩ := Option.bind_eq_some_iff.mp h
    refine Z_callV8 k_X10_partsIn k_X10_fail rfl rfl (l_10_130) (ci := 10) rfl [vI 8] [] rfl rfl (Nat.le_of_ble_eq_true rfl) (Nat.le_of_ble_eq_true rfl) (e_X10_fail (d + 3) 8 x1.2 _ _ hx3) ?_
    refine Z_blk k_X10_partsIn 1 (pc' := 114) (lo' := [some (vR 15 20 0), some (vI a1), some (vI a2), none]) (st' := [vI x3.1]) (M1 := x3.2) rfl ?_
    cases h
    exact Z_ret ⟨Or.inl rfl, _, rfl⟩ rfl
def f_X10_partsIn_32 : Nat → Int → Int → Int → AM → Option (Int × AM)
  | 0, _, _, _, _ => none
  | n + 1, a1, a2, a3, M => if 300 ≤ a3 then f_X10_partsIn_89 a1 a2 M else ((f_X1_isHolding 34 a1 M).bind fun x1 => if x1.1 = 0 then f_X10_partsIn_89 a1 a2 x1.2 else ((f_X0_passSpan 61 34 (o_sub 300 a2) x1.2).bind fun x2 => f_X10_partsIn_32 n a1 (o_sub (x2.2 34 5) (x2.2 23 5)) (o_add a3 1) x2.2))
theorem e_X10_partsIn_32 {Y : List (Nat × Nat)} (d : Nat) : ∀ (n : Nat) (a1 : Int) (a2 : Int) (a3 : Int) (M : AM) (x : Int) (N : AM), f_X10_partsIn_32 n a1 a2 a3 M = some (x, N) → Ev Y (d + 4) m_X10_partsIn 32 [some (vR 15 20 0), some (vI a1), some (vI a2), some (vI a3)] [] M (some (vI x)) N := by
  intro n
  induction n with
  | zero => intro a1 a2 a3 M x N h; cases h
  | succ n ih =>
    intro a1 a2 a3 M x N h
    simp only [f_X10_partsIn_32] at h
    refine Z_blk k_X10_partsIn 2 (pc' := 36) (lo' := [some (vR 15 20 0), some (vI a1), some (vI a2), some (vI a3)]) (st' := [vI 300, vI a3]) (M1 := M) rfl ?_
    refine Z_icmp k_X10_partsIn rfl 89 rfl (fun hc => ?_) (fun hc => ?_)
    · replace h := of_pos hc h
      refine Z_mask [true, true, true, false] (lo0 := [some (vR 15 20 0), some (vI a1), some (vI a2), none]) rfl ?_
      exact e_X10_partsIn_89 d a1 a2 M _ _ h
    · replace h := of_neg hc h
      refine Z_blk k_X10_partsIn 3 (pc' := 44) (lo' := [some (vR 15 20 0), some (vI a1), some (vI a2), some (vI a3)]) (st' := [vI a1, vR 34 11 0]) (M1 := M) rfl ?_
      obtain ⟨x1, hx1, h⟩ := Option.bind_eq_some_iff.mp h
      refine Z_callV8 k_X10_partsIn k_X1_isHolding rfl rfl (l_10_259) (ci := 1) rfl [vI a1] [] rfl rfl (Nat.le_of_ble_eq_true rfl) (Nat.le_of_ble_eq_true rfl) (e_X1_isHolding (d + 3) 34 a1 M _ _ hx1) ?_
      refine Z_if k_X10_partsIn rfl 89 rfl (fun hc => ?_) (fun hc => ?_)
      · replace h := of_pos hc h
        refine Z_mask [true, true, true, false] (lo0 := [some (vR 15 20 0), some (vI a1), some (vI a2), none]) rfl ?_
        exact e_X10_partsIn_89 d a1 a2 x1.2 _ _ h
      · replace h := of_neg hc h
        refine Z_blk k_X10_partsIn 7 (pc' := 63) (lo' := [some (vR 15 20 0), some (vI a1), some (vI a2), some (vI a3)]) (st' := [vI (o_sub 300 a2), vR 34 11 0, vR 61 10 0]) (M1 := x1.2) rfl ?_
        obtain ⟨x2, hx2, h⟩ := Option.bind_eq_some_iff.mp h
        refine Z_callV8 k_X10_partsIn k_X0_passSpan rfl rfl (l_10_312) (ci := 0) rfl [vR 34 11 0, vI (o_sub 300 a2)] [] rfl rfl (Nat.le_of_ble_eq_true rfl) (Nat.le_of_ble_eq_true rfl) (e_X0_passSpan (d + 0) 61 34 (o_sub 300 a2) x1.2 _ _ hx2) ?_
        refine Z_blk k_X10_partsIn 11 (pc' := 32) (lo' := [some (vR 15 20 0), some (vI a1), some (vI (o_sub (x2.2 34 5) (x2.2 23 5))), some (vI (o_add a3 1))]) (st' := []) (M1 := x2.2) rfl ?_
        refine Z_mask [true, true, true, true] (lo0 := [some (vR 15 20 0), some (vI a1), some (vI (o_sub (x2.2 34 5) (x2.2 23 5))), some (vI (o_add a3 1))]) rfl ?_
        exact ih a1 (o_sub (x2.2 34 5) (x2.2 23 5)) (o_add a3 1) x2.2 _ _ h
def f_X10_partsIn (a1 : Int) (M : AM) : Option (Int × AM) := (f_X1_isCouple 23 a1 M).bind fun x1 => if ¬ x1.1 = 0 then ((f_X1_copyFrom 34 23 x1.2).bind fun x2 => f_X10_partsIn_32 zB a1 0 0 x2) else ((f_X10_fail 2 x1.2).bind fun x3 => some (x3.1, x3.2))
theorem e_X10_partsIn {Y : List (Nat × Nat)} (d : Nat) (a1 : Int) (M : AM) (x : Int) (N : AM) (h : f_X10_partsIn a1 M = some (x, N)) : Ev Y (d + 4) m_X10_partsIn 0 [some (vR 15 20 0), some (vI a1), none, none] [] M (some (vI x)) N := by
  unfold f_X10_partsIn at h
  refine Z_blk k_X10_partsIn 3 (pc' := 5) (lo' := [some (vR 15 20 0), some (vI a1), none, none]) (st' := [vI a1, vR 23 11 0]) (M1 := M) rfl ?_
  obtain ⟨x1, hx1, h⟩ := Option.bind_eq_some_iff.mp h
  refine Z_callV8 k_X10_partsIn k_X1_isCouple rfl rfl (l_10_247) (ci := 1) rfl [vI a1] [] rfl rfl (Nat.le_of_ble_eq_true rfl) (Nat.le_of_ble_eq_true rfl) (e_X1_isCouple (d + 3) 23 a1 M _ _ hx1) ?_
  refine Z_if k_X10_partsIn rfl 17 rfl (fun hc => ?_) (fun hc => ?_)
  · replace h := of_pos hc h
    refine Z_blk k_X10_partsIn 4 (pc' := 25) (lo' := [some (vR 15 20 0), some (vI a1), none, none]) (st' := [vR 23 11 0, vR 34 11 0]) (M1 := x1.2) rfl ?_
    obtain ⟨x2, hx2, h⟩ := Option.bind_eq_some_iff.mp h
    refine Z_callV8 k_X10_partsIn k_X1_copyFrom rfl rfl (l_10_174) (ci := 1) rfl [vR 23 11 0] [] rfl rfl (Nat.le_of_ble_eq_true rfl) (Nat.le_of_ble_eq_true rfl) (e_X1_copyFrom (d + 3) 34 23 x1.2 _ hx2) ?_
    refine Z_blk k_X10_partsIn 4 (pc' := 32) (lo' := [some (vR 15 20 0), some (vI a1), some (vI 0), some (vI 0)]) (st' := []) (M1 := x2) rfl ?_
    refine Z_mask [true, true, true, true] (lo0 := [some (vR 15 20 0), some (vI a1), some (vI 0), some (vI 0)]) rfl ?_
    exact e_X10_partsIn_32 d zB a1 0 0 x2 _ _ h
  · replace h := of_neg hc h
    refine Z_blk k_X10_partsIn 2 (pc' := 13) (lo' := [some (vR 15 20 0), some (vI a1), none, none]) (st' := [vI 2, vR 15 20 0]) (M1 := x1.2) rfl ?_
    obtain ⟨x3, hx3, h⟩ := Option.bind_eq_some_iff.mp h
    refine Z_callV8 k_X10_partsIn k_X10_fail rfl rfl (l_10_130) (ci := 10) rfl [vI 2] [] rfl rfl (Nat.le_of_ble_eq_true rfl) (Nat.le_of_ble_eq_true rfl) (e_X10_fail (d + 3) 2 x1.2 _ _ hx3) ?_
    cases h
    exact Z_ret ⟨Or.inl rfl, _, rfl⟩ rfl
theorem l_10_315 : zhas 4237 (Jvm.Cond.methodLink "BellPullHouse" 315 yX1_isStretching) = true := by decide +kernel
theorem l_10_318 : zhas 4238 (Jvm.Cond.methodLink "BellPullHouse" 318 yX1_stretchAll) = true := by decide +kernel
def f_X10_silentIn_71 (a1 : Int) (a2 : Int) (M : AM) : Option (Int × AM) := (f_X1_isRung 34 a1 M).bind fun x1 => if x1.1 = 0 then ((f_X10_answer a2 x1.2).bind fun x2 => some (x2.1, x2.2)) else ((f_X10_fail 8 x1.2).bind fun x3 => some (x3.1, x3.2))
theorem e_X10_silentIn_71 {Y : List (Nat × Nat)} (d : Nat) (a1 : Int) (a2 : Int) (M : AM) (x : Int) (N : AM) (h : f_X10_silentIn_71 a1 a2 M = some (x, N)) : Ev Y (d + 4) m_X10_silentIn 71 [some (vR 15 20 0), some (vI a1), some (vI a2)] [] M (some (vI x)) N := by
  unfold f_X10_silentIn_71 at h
  refine Z_blk k_X10_silentIn 3 (pc' := 76) (lo' := [some (vR 15 20 0), some (vI a1), some (vI a2)]) (st' := [vI a1, vR 34 11 0]) (M1 := M) rfl ?_
  obtain ⟨x1, hx1, h⟩ := Option.bind_eq_some_iff.mp h
  refine Z_callV8 k_X10_silentIn k_X1_isRung rfl rfl (l_10_262) (ci := 1) rfl [vI a1] [] rfl rfl (Nat.le_of_ble_eq_true rfl) (Nat.le_of_ble_eq_true rfl) (e_X1_isRung (d + 0) 34 a1 M _ _ hx1) ?_
  refine Z_if k_X10_silentIn rfl 91 rfl (fun hc => ?_) (fun hc => ?_)
  · replace h := of_pos hc h
    refine Z_blk k_X10_silentIn 2 (pc' := 93) (lo' := [some (vR 15 20 0), some (vI a1), some (vI a2)]) (st' := [vI a2, vR 15 20 0]) (M1 := x1.2) rfl ?_
    obtain ⟨x2, hx2, h⟩ := Option.bind_eq_some_iff.mp h
    refine Z_callV8 k_X10_silentIn k_X10_answer rfl rfl (l_10_184) (ci := 10) rfl [vI a2] [] rfl rfl (Nat.le_of_ble_eq_true rfl) (Nat.le_of_ble_eq_true rfl) (e_X10_answer (d + 3) a2 x1.2 _ _ hx2) ?_
    cases h
    exact Z_ret ⟨Or.inl rfl, _, rfl⟩ rfl
  · replace h := of_neg hc h
    refine Z_blk k_X10_silentIn 2 (pc' := 85) (lo' := [some (vR 15 20 0), some (vI a1), some (vI a2)]) (st' := [vI 8, vR 15 20 0]) (M1 := x1.2) rfl ?_
    obtain ⟨x3, hx3, h⟩ := Option.bind_eq_some_iff.mp h
    refine Z_callV8 k_X10_silentIn k_X10_fail rfl rfl (l_10_130) (ci := 10) rfl [vI 8] [] rfl rfl (Nat.le_of_ble_eq_true rfl) (Nat.le_of_ble_eq_true rfl) (e_X10_fail (d + 3) 8 x1.2 _ _ hx3) ?_
    refine Z_blk k_X10_silentIn 1 (pc' := 96) (lo' := [some (vR 15 20 0), some (vI a1), some (vI a2)]) (st' := [vI x3.1]) (M1 := x3.2) rfl ?_
    cases h
    exact Z_ret ⟨Or.inl rfl, _, rfl⟩ rfl
def f_X10_silentIn_30 : Nat → Int → Int → AM → Option (Int × AM)
  | 0, _, _, _ => none
  | n + 1, a1, a2, M => if 300 ≤ a2 then f_X10_silentIn_71 a1 a2 M else ((f_X1_isRung 34 a1 M).bind fun x1 => if x1.1 = 0 then f_X10_silentIn_71 a1 a2 x1.2 else ((f_X1_isStretching 34 x1.2).bind fun x2 => if x2.1 = 0 then f_X10_silentIn_71 a1 a2 x2.2 else ((f_X1_stretchAll 34 x2.2).bind fun x3 => f_X10_silentIn_30 n a1 (o_add a2 1) x3)))
theorem e_X10_silentIn_30 {Y : List (Nat × Nat)} (d : Nat) : ∀ (n : Nat) (a1 : Int) (a2 : Int) (M : AM) (x : Int) (N : AM), f_X10_silentIn_30 n a1 a2 M = some (x, N) → Ev Y (d + 4) m_X10_silentIn 30 [some (vR 15 20 0), some (vI a1), some (vI a2)] [] M (some (vI x)) N := by
  intro n
  induction n with
  | zero => intro a1 a2 M x N h; cases h
  | succ n ih =>
    intro a1 a2 M x N h
    simp only [f_X10_silentIn_30] at h
    refine Z_blk k_X10_silentIn 2 (pc' := 34) (lo' := [some (vR 15 20 0), some (vI a1), some (vI a2)]) (st' := [vI 300, vI a2]) (M1 := M) rfl ?_
    refine Z_icmp k_X10_silentIn rfl 71 rfl (fun hc => ?_) (fun hc => ?_)
    · replace h := of_pos hc h
      refine Z_mask [true, true, true] (lo0 := [some (vR 15 20 0), some (vI a1), some (vI a2)]) rfl ?_
      exact e_X10_silentIn_71 d a1 a2 M _ _ h
    · replace h := of_neg hc h
      refine Z_blk k_X10_silentIn 3 (pc' := 42) (lo' := [some (vR 15 20 0), some (vI a1), some (vI a2)]) (st' := [vI a1, vR 34 11 0]) (M1 := M) rfl ?_
      obtain ⟨x1, hx1, h⟩ := Option.bind_eq_some_iff.mp h
      refine Z_callV8 k_X10_silentIn k_X1_isRung rfl rfl (l_10_262) (ci := 1) rfl [vI a1] [] rfl rfl (Nat.le_of_ble_eq_true rfl) (Nat.le_of_ble_eq_true rfl) (e_X1_isRung (d + 0) 34 a1 M _ _ hx1) ?_
      refine Z_if k_X10_silentIn rfl 71 rfl (fun hc => ?_) (fun hc => ?_)
      · replace h := of_pos hc h
        refine Z_mask [true, true, true] (lo0 := [some (vR 15 20 0), some (vI a1), some (vI a2)]) rfl ?_
        exact e_X10_silentIn_71 d a1 a2 x1.2 _ _ h
      · replace h := of_neg hc h
        refine Z_blk k_X10_silentIn 2 (pc' := 52) (lo' := [some (vR 15 20 0), some (vI a1), some (vI a2)]) (st' := [vR 34 11 0]) (M1 := x1.2) rfl ?_
        obtain ⟨x2, hx2, h⟩ := Option.bind_eq_some_iff.mp h
        refine Z_callV8 k_X10_silentIn k_X1_isStretching rfl rfl (l_10_315) (ci := 1) rfl [] [] rfl rfl (Nat.le_of_ble_eq_true rfl) (Nat.le_of_ble_eq_true rfl) (e_X1_isStretching (d + 2) 34 x1.2 _ _ hx2) ?_
        refine Z_if k_X10_silentIn rfl 71 rfl (fun hc => ?_) (fun hc => ?_)
        · replace h := of_pos hc h
          refine Z_mask [true, true, true] (lo0 := [some (vR 15 20 0), some (vI a1), some (vI a2)]) rfl ?_
          exact e_X10_silentIn_71 d a1 a2 x2.2 _ _ h
        · replace h := of_neg hc h
          refine Z_blk k_X10_silentIn 2 (pc' := 62) (lo' := [some (vR 15 20 0), some (vI a1), some (vI a2)]) (st' := [vR 34 11 0]) (M1 := x2.2) rfl ?_
          obtain ⟨x3, hx3, h⟩ := Option.bind_eq_some_iff.mp h
          refine Z_callV8 k_X10_silentIn k_X1_stretchAll rfl rfl (l_10_318) (ci := 1) rfl [] [] rfl rfl (Nat.le_of_ble_eq_true rfl) (Nat.le_of_ble_eq_true rfl) (e_X1_stretchAll (d + 2) 34 x2.2 _ hx3) ?_
          refine Z_blk k_X10_silentIn 2 (pc' := 30) (lo' := [some (vR 15 20 0), some (vI a1), some (vI (o_add a2 1))]) (st' := []) (M1 := x3) rfl ?_
          refine Z_mask [true, true, true] (lo0 := [some (vR 15 20 0), some (vI a1), some (vI (o_add a2 1))]) rfl ?_
          exact ih a1 (o_add a2 1) x3 _ _ h
def f_X10_silentIn (a1 : Int) (M : AM) : Option (Int × AM) := (f_X1_isCouple 23 a1 M).bind fun x1 => if ¬ x1.1 = 0 then ((f_X1_copyFrom 34 23 x1.2).bind fun x2 => f_X10_silentIn_30 zB a1 0 x2) else ((f_X10_fail 2 x1.2).bind fun x3 => some (x3.1, x3.2))
theorem e_X10_silentIn {Y : List (Nat × Nat)} (d : Nat) (a1 : Int) (M : AM) (x : Int) (N : AM) (h : f_X10_silentIn a1 M = some (x, N)) : Ev Y (d + 4) m_X10_silentIn 0 [some (vR 15 20 0), some (vI a1), none] [] M (some (vI x)) N := by
  unfold f_X10_silentIn at h
  refine Z_blk k_X10_silentIn 3 (pc' := 5) (lo' := [some (vR 15 20 0), some (vI a1), none]) (st' := [vI a1, vR 23 11 0]) (M1 := M) rfl ?_
  obtain ⟨x1, hx1, h⟩ := Option.bind_eq_some_iff.mp h
  refine Z_callV8 k_X10_silentIn k_X1_isCouple rfl rfl (l_10_247) (ci := 1) rfl [vI a1] [] rfl rfl (Nat.le_of_ble_eq_true rfl) (Nat.le_of_ble_eq_true rfl) (e_X1_isCouple (d + 3) 23 a1 M _ _ hx1) ?_
  refine Z_if k_X10_silentIn rfl 17 rfl (fun hc => ?_) (fun hc => ?_)
  · replace h := of_pos hc h
    refine Z_blk k_X10_silentIn 4 (pc' := 25) (lo' := [some (vR 15 20 0), some (vI a1), none]) (st' := [vR 23 11 0, vR 34 11 0]) (M1 := x1.2) rfl ?_
    obtain ⟨x2, hx2, h⟩ := Option.bind_eq_some_iff.mp h
    refine Z_callV8 k_X10_silentIn k_X1_copyFrom rfl rfl (l_10_174) (ci := 1) rfl [vR 23 11 0] [] rfl rfl (Nat.le_of_ble_eq_true rfl) (Nat.le_of_ble_eq_true rfl) (e_X1_copyFrom (d + 3) 34 23 x1.2 _ hx2) ?_
    refine Z_blk k_X10_silentIn 2 (pc' := 30) (lo' := [some (vR 15 20 0), some (vI a1), some (vI 0)]) (st' := []) (M1 := x2) rfl ?_
    refine Z_mask [true, true, true] (lo0 := [some (vR 15 20 0), some (vI a1), some (vI 0)]) rfl ?_
    exact e_X10_silentIn_30 d zB a1 0 x2 _ _ h
  · replace h := of_neg hc h
    refine Z_blk k_X10_silentIn 2 (pc' := 13) (lo' := [some (vR 15 20 0), some (vI a1), none]) (st' := [vI 2, vR 15 20 0]) (M1 := x1.2) rfl ?_
    obtain ⟨x3, hx3, h⟩ := Option.bind_eq_some_iff.mp h
    refine Z_callV8 k_X10_silentIn k_X10_fail rfl rfl (l_10_130) (ci := 10) rfl [vI 2] [] rfl rfl (Nat.le_of_ble_eq_true rfl) (Nat.le_of_ble_eq_true rfl) (e_X10_fail (d + 3) 2 x1.2 _ _ hx3) ?_
    cases h
    exact Z_ret ⟨Or.inl rfl, _, rfl⟩ rfl
def f_X10_holdIn_11 (M : AM) : Option (Int × AM) := (f_X10_fail 5 M).bind fun x1 => some (x1.1, x1.2)
theorem e_X10_holdIn_11 {Y : List (Nat × Nat)} (d : Nat) (M : AM) (x : Int) (N : AM) (h : f_X10_holdIn_11 M = some (x, N)) : Ev Y (d + 6) m_X10_holdIn 11 [some (vR 15 20 0), none] [] M (some (vI x)) N := by
  unfold f_X10_holdIn_11 at h
  refine Z_blk k_X10_holdIn 2 (pc' := 13) (lo' := [some (vR 15 20 0), none]) (st' := [vI 5, vR 15 20 0]) (M1 := M) rfl ?_
  obtain ⟨x1, hx1, h⟩ := Option.bind_eq_some_iff.mp h
  refine Z_callV8 k_X10_holdIn k_X10_fail rfl rfl (l_10_130) (ci := 10) rfl [vI 5] [] rfl rfl (Nat.le_of_ble_eq_true rfl) (Nat.le_of_ble_eq_true rfl) (e_X10_fail (d + 5) 5 M _ _ hx1) ?_
  cases h
  exact Z_ret ⟨Or.inl rfl, _, rfl⟩ rfl
def f_X10_holdIn (a1 : Int) (M : AM) : Option (Int × AM) := if a1 < 0 then f_X10_holdIn_11 M else (if a1 ≤ 300 then ((f_X10_lookAhead a1 M).bind fun x1 => (f_X10_answer (x1 34 8) x1).bind fun x2 => some (x2.1, x2.2)) else f_X10_holdIn_11 M)
theorem e_X10_holdIn {Y : List (Nat × Nat)} (d : Nat) (a1 : Int) (M : AM) (x : Int) (N : AM) (h : f_X10_holdIn a1 M = some (x, N)) : Ev Y (d + 6) m_X10_holdIn 0 [some (vR 15 20 0), some (vI a1)] [] M (some (vI x)) N := by
  unfold f_X10_holdIn at h
  refine Z_blk k_X10_holdIn 1 (pc' := 1) (lo' := [some (vR 15 20 0), some (vI a1)]) (st' := [vI a1]) (M1 := M) rfl ?_
  refine Z_if k_X10_holdIn rfl 11 rfl (fun hc => ?_) (fun hc => ?_)
  · replace h := of_pos hc h
    refine Z_mask [true, false] (lo0 := [some (vR 15 20 0), none]) rfl ?_
    exact e_X10_holdIn_11 d M _ _ h
  · replace h := of_neg hc h
    refine Z_blk k_X10_holdIn 2 (pc' := 8) (lo' := [some (vR 15 20 0), some (vI a1)]) (st' := [vI 300, vI a1]) (M1 := M) rfl ?_
    refine Z_icmp k_X10_holdIn rfl 17 rfl (fun hc => ?_) (fun hc => ?_)
    · replace h := of_pos hc h
      refine Z_blk k_X10_holdIn 2 (pc' := 19) (lo' := [some (vR 15 20 0), some (vI a1)]) (st' := [vI a1, vR 15 20 0]) (M1 := M) rfl ?_
      obtain ⟨x1, hx1, h⟩ := Option.bind_eq_some_iff.mp h
      refine Z_callV8 k_X10_holdIn k_X10_lookAhead rfl rfl (l_10_309) (ci := 10) rfl [vI a1] [] rfl rfl (Nat.le_of_ble_eq_true rfl) (Nat.le_of_ble_eq_true rfl) (e_X10_lookAhead (d + 0) a1 M _ hx1) ?_
      refine Z_blk k_X10_holdIn 4 (pc' := 30) (lo' := [some (vR 15 20 0), some (vI a1)]) (st' := [vI (x1 34 8), vR 15 20 0]) (M1 := x1) rfl ?_
      obtain ⟨x2, hx2, h⟩ := Option.bind_eq_some_iff.mp h
      refine Z_callV8 k_X10_holdIn k_X10_answer rfl rfl (l_10_184) (ci := 10) rfl [vI (x1 34 8)] [] rfl rfl (Nat.le_of_ble_eq_true rfl) (Nat.le_of_ble_eq_true rfl) (e_X10_answer (d + 5) (x1 34 8) x1 _ _ hx2) ?_
      cases h
      exact Z_ret ⟨Or.inl rfl, _, rfl⟩ rfl
    · replace h := of_neg hc h
      refine Z_mask [true, false] (lo0 := [some (vR 15 20 0), none]) rfl ?_
      exact e_X10_holdIn_11 d M _ _ h
theorem l_10_329 : zhas 5011 (Jvm.Cond.methodLink "BellPullHouse" 329 yX7_leastMends) = true := by decide +kernel
def f_X10_fewestMends_17 (M : AM) : Option (Int × AM) := (f_X10_fail 5 M).bind fun x1 => some (x1.1, x1.2)
theorem e_X10_fewestMends_17 {Y : List (Nat × Nat)} (d : Nat) (M : AM) (x : Int) (N : AM) (h : f_X10_fewestMends_17 M = some (x, N)) : Ev Y (d + 4) m_X10_fewestMends 17 [some (vR 15 20 0), none, none] [] M (some (vI x)) N := by
  unfold f_X10_fewestMends_17 at h
  refine Z_blk k_X10_fewestMends 2 (pc' := 19) (lo' := [some (vR 15 20 0), none, none]) (st' := [vI 5, vR 15 20 0]) (M1 := M) rfl ?_
  obtain ⟨x1, hx1, h⟩ := Option.bind_eq_some_iff.mp h
  refine Z_callV8 k_X10_fewestMends k_X10_fail rfl rfl (l_10_130) (ci := 10) rfl [vI 5] [] rfl rfl (Nat.le_of_ble_eq_true rfl) (Nat.le_of_ble_eq_true rfl) (e_X10_fail (d + 3) 5 M _ _ hx1) ?_
  cases h
  exact Z_ret ⟨Or.inl rfl, _, rfl⟩ rfl
def f_X10_fewestMends (a1 : Int) (M : AM) : Option (Int × AM) := if a1 < 0 then f_X10_fewestMends_17 M else (if a1 < o_shl 1 (M 23 4) then ((f_X7_leastMends a1 M).bind fun x1 => if ¬ x1.1 = (-1) then some (x1.1, x1.2) else ((f_X10_fail 8 x1.2).bind fun x2 => some (x2.1, x2.2))) else f_X10_fewestMends_17 M)
theorem e_X10_fewestMends {Y : List (Nat × Nat)} (d : Nat) (a1 : Int) (M : AM) (x : Int) (N : AM) (h : f_X10_fewestMends a1 M = some (x, N)) : Ev Y (d + 4) m_X10_fewestMends 0 [some (vR 15 20 0), some (vI a1), none] [] M (some (vI x)) N := by
  unfold f_X10_fewestMends at h
  refine Z_blk k_X10_fewestMends 1 (pc' := 1) (lo' := [some (vR 15 20 0), some (vI a1), none]) (st' := [vI a1]) (M1 := M) rfl ?_
  refine Z_if k_X10_fewestMends rfl 17 rfl (fun hc => ?_) (fun hc => ?_)
  · replace h := of_pos hc h
    refine Z_mask [true, false, false] (lo0 := [some (vR 15 20 0), none, none]) rfl ?_
    exact e_X10_fewestMends_17 d M _ _ h
  · replace h := of_neg hc h
    refine Z_blk k_X10_fewestMends 6 (pc' := 14) (lo' := [some (vR 15 20 0), some (vI a1), none]) (st' := [vI (o_shl 1 (M 23 4)), vI a1]) (M1 := M) rfl ?_
    refine Z_icmp k_X10_fewestMends rfl 23 rfl (fun hc => ?_) (fun hc => ?_)
    · replace h := of_pos hc h
      refine Z_blk k_X10_fewestMends 5 (pc' := 32) (lo' := [some (vR 15 20 0), some (vI a1), none]) (st' := [vI a1, vR 23 11 0, vR 63 17 0]) (M1 := M) rfl ?_
      obtain ⟨x1, hx1, h⟩ := Option.bind_eq_some_iff.mp h
      refine Z_callV8 k_X10_fewestMends k_X7_leastMends rfl rfl (l_10_329) (ci := 7) rfl [vR 23 11 0, vI a1] [] rfl rfl (Nat.le_of_ble_eq_true rfl) (Nat.le_of_ble_eq_true rfl) (e_X7_leastMends (d + 0) a1 M _ _ hx1) ?_
      refine Z_blk k_X10_fewestMends 3 (pc' := 38) (lo' := [some (vR 15 20 0), some (vI a1), some (vI x1.1)]) (st' := [vI (-1), vI x1.1]) (M1 := x1.2) rfl ?_
      refine Z_icmp k_X10_fewestMends rfl 50 rfl (fun hc => ?_) (fun hc => ?_)
      · replace h := of_pos hc h
        refine Z_blk k_X10_fewestMends 1 (pc' := 51) (lo' := [some (vR 15 20 0), some (vI a1), some (vI x1.1)]) (st' := [vI x1.1]) (M1 := x1.2) rfl ?_
        cases h
        exact Z_ret ⟨Or.inl rfl, _, rfl⟩ rfl
      · replace h := of_neg hc h
        refine Z_blk k_X10_fewestMends 2 (pc' := 44) (lo' := [some (vR 15 20 0), some (vI a1), some (vI x1.1)]) (st' := [vI 8, vR 15 20 0]) (M1 := x1.2) rfl ?_
        obtain ⟨x2, hx2, h⟩ := Option.bind_eq_some_iff.mp h
        refine Z_callV8 k_X10_fewestMends k_X10_fail rfl rfl (l_10_130) (ci := 10) rfl [vI 8] [] rfl rfl (Nat.le_of_ble_eq_true rfl) (Nat.le_of_ble_eq_true rfl) (e_X10_fail (d + 3) 8 x1.2 _ _ hx2) ?_
        refine Z_blk k_X10_fewestMends 1 (pc' := 51) (lo' := [some (vR 15 20 0), some (vI a1), some (vI x1.1)]) (st' := [vI x2.1]) (M1 := x2.2) rfl ?_
        cases h
        exact Z_ret ⟨Or.inl rfl, _, rfl⟩ rfl
    · replace h := of_neg hc h
      refine Z_mask [true, false, false] (lo0 := [some (vR 15 20 0), none, none]) rfl ?_
      exact e_X10_fewestMends_17 d M _ _ h
theorem l_10_321 : zhas 5007 (Jvm.Cond.methodLink "BellPullHouse" 321 yX10_fewestMends) = true := by decide +kernel
theorem l_10_324 : zhas 5039 (Jvm.Cond.methodLink "BellPullHouse" 324 yJ6_bitCount_0f7a4) = true := by decide +kernel
def f_X10_mends (a1 : Int) (M : AM) : Option (Int × AM) := (f_X10_fewestMends a1 M).bind fun x1 => if ¬ x1.1 = (-1) then ((f_J6_bitCount_0f7a4 x1.1 x1.2).bind fun x2 => (f_X10_answer x2.1 x2.2).bind fun x3 => some (x3.1, x3.2)) else some ((-1), x1.2)
theorem e_X10_mends {Y : List (Nat × Nat)} (d : Nat) (a1 : Int) (M : AM) (x : Int) (N : AM) (h : f_X10_mends a1 M = some (x, N)) : Ev Y (d + 5) m_X10_mends 0 [some (vR 15 20 0), some (vI a1), none] [] M (some (vI x)) N := by
  unfold f_X10_mends at h
  refine Z_blk k_X10_mends 2 (pc' := 2) (lo' := [some (vR 15 20 0), some (vI a1), none]) (st' := [vI a1, vR 15 20 0]) (M1 := M) rfl ?_
  obtain ⟨x1, hx1, h⟩ := Option.bind_eq_some_iff.mp h
  refine Z_callV8 k_X10_mends k_X10_fewestMends rfl rfl (l_10_321) (ci := 10) rfl [vI a1] [] rfl rfl (Nat.le_of_ble_eq_true rfl) (Nat.le_of_ble_eq_true rfl) (e_X10_fewestMends (d + 0) a1 M _ _ hx1) ?_
  refine Z_blk k_X10_mends 3 (pc' := 8) (lo' := [some (vR 15 20 0), some (vI a1), some (vI x1.1)]) (st' := [vI (-1), vI x1.1]) (M1 := x1.2) rfl ?_
  refine Z_icmp k_X10_mends rfl 15 rfl (fun hc => ?_) (fun hc => ?_)
  · replace h := of_pos hc h
    refine Z_blk k_X10_mends 2 (pc' := 17) (lo' := [some (vR 15 20 0), some (vI a1), some (vI x1.1)]) (st' := [vI x1.1, vR 15 20 0]) (M1 := x1.2) rfl ?_
    obtain ⟨x2, hx2, h⟩ := Option.bind_eq_some_iff.mp h
    refine Z_callS8 k_X10_mends k_J6_bitCount_0f7a4 rfl rfl (l_10_324) [vI x1.1] [vR 15 20 0] rfl rfl (Nat.le_of_ble_eq_true rfl) (Nat.le_of_ble_eq_true rfl) (e_J6_bitCount_0f7a4 (d + 4) x1.1 x1.2 _ _ hx2) ?_
    obtain ⟨x3, hx3, h⟩ := Option.bind_eq_some_iff.mp h
    refine Z_callV8 k_X10_mends k_X10_answer rfl rfl (l_10_184) (ci := 10) rfl [vI x2.1] [] rfl rfl (Nat.le_of_ble_eq_true rfl) (Nat.le_of_ble_eq_true rfl) (e_X10_answer (d + 4) x2.1 x2.2 _ _ hx3) ?_
    cases h
    exact Z_ret ⟨Or.inl rfl, _, rfl⟩ rfl
  · replace h := of_neg hc h
    refine Z_blk k_X10_mends 2 (pc' := 23) (lo' := [some (vR 15 20 0), some (vI a1), some (vI x1.1)]) (st' := [vI (-1)]) (M1 := x1.2) rfl ?_
    cases h
    exact Z_ret ⟨Or.inl rfl, _, rfl⟩ rfl
def f_X10_mendSet (a1 : Int) (M : AM) : Option (Int × AM) := (f_X10_fewestMends a1 M).bind fun x1 => if ¬ x1.1 = (-1) then ((f_X10_answer x1.1 x1.2).bind fun x2 => some (x2.1, x2.2)) else some ((-1), x1.2)
theorem e_X10_mendSet {Y : List (Nat × Nat)} (d : Nat) (a1 : Int) (M : AM) (x : Int) (N : AM) (h : f_X10_mendSet a1 M = some (x, N)) : Ev Y (d + 5) m_X10_mendSet 0 [some (vR 15 20 0), some (vI a1), none] [] M (some (vI x)) N := by
  unfold f_X10_mendSet at h
  refine Z_blk k_X10_mendSet 2 (pc' := 2) (lo' := [some (vR 15 20 0), some (vI a1), none]) (st' := [vI a1, vR 15 20 0]) (M1 := M) rfl ?_
  obtain ⟨x1, hx1, h⟩ := Option.bind_eq_some_iff.mp h
  refine Z_callV8 k_X10_mendSet k_X10_fewestMends rfl rfl (l_10_321) (ci := 10) rfl [vI a1] [] rfl rfl (Nat.le_of_ble_eq_true rfl) (Nat.le_of_ble_eq_true rfl) (e_X10_fewestMends (d + 0) a1 M _ _ hx1) ?_
  refine Z_blk k_X10_mendSet 3 (pc' := 8) (lo' := [some (vR 15 20 0), some (vI a1), some (vI x1.1)]) (st' := [vI (-1), vI x1.1]) (M1 := x1.2) rfl ?_
  refine Z_icmp k_X10_mendSet rfl 15 rfl (fun hc => ?_) (fun hc => ?_)
  · replace h := of_pos hc h
    refine Z_blk k_X10_mendSet 2 (pc' := 17) (lo' := [some (vR 15 20 0), some (vI a1), some (vI x1.1)]) (st' := [vI x1.1, vR 15 20 0]) (M1 := x1.2) rfl ?_
    obtain ⟨x2, hx2, h⟩ := Option.bind_eq_some_iff.mp h
    refine Z_callV8 k_X10_mendSet k_X10_answer rfl rfl (l_10_184) (ci := 10) rfl [vI x1.1] [] rfl rfl (Nat.le_of_ble_eq_true rfl) (Nat.le_of_ble_eq_true rfl) (e_X10_answer (d + 4) x1.1 x1.2 _ _ hx2) ?_
    cases h
    exact Z_ret ⟨Or.inl rfl, _, rfl⟩ rfl
  · replace h := of_neg hc h
    refine Z_blk k_X10_mendSet 2 (pc' := 20) (lo' := [some (vR 15 20 0), some (vI a1), some (vI x1.1)]) (st' := [vI (-1)]) (M1 := x1.2) rfl ?_
    cases h
    exact Z_ret ⟨Or.inl rfl, _, rfl⟩ rfl
theorem l_10_335 : zhas 5052 (Jvm.Cond.methodLink "BellPullHouse" 335 yX7_leastCuts) = true := by decide +kernel
def f_X10_fewestCuts_22 (M : AM) : Option (Int × AM) := (f_X10_fail 2 M).bind fun x1 => some (x1.1, x1.2)
theorem e_X10_fewestCuts_22 {Y : List (Nat × Nat)} (d : Nat) (M : AM) (x : Int) (N : AM) (h : f_X10_fewestCuts_22 M = some (x, N)) : Ev Y (d + 3) m_X10_fewestCuts 22 [some (vR 15 20 0), none, none] [] M (some (vI x)) N := by
  unfold f_X10_fewestCuts_22 at h
  refine Z_blk k_X10_fewestCuts 2 (pc' := 24) (lo' := [some (vR 15 20 0), none, none]) (st' := [vI 2, vR 15 20 0]) (M1 := M) rfl ?_
  obtain ⟨x1, hx1, h⟩ := Option.bind_eq_some_iff.mp h
  refine Z_callV8 k_X10_fewestCuts k_X10_fail rfl rfl (l_10_130) (ci := 10) rfl [vI 2] [] rfl rfl (Nat.le_of_ble_eq_true rfl) (Nat.le_of_ble_eq_true rfl) (e_X10_fail (d + 2) 2 M _ _ hx1) ?_
  cases h
  exact Z_ret ⟨Or.inl rfl, _, rfl⟩ rfl
def f_X10_fewestCuts (a1 : Int) (a2 : Int) (M : AM) : Option (Int × AM) := (f_X1_isRoom 23 a1 M).bind fun x1 => if x1.1 = 0 then f_X10_fewestCuts_22 x1.2 else ((f_X1_isRoom 23 a2 x1.2).bind fun x2 => if ¬ x2.1 = 0 then (if ¬ a1 = a2 then ((f_X7_leastCuts a1 a2 x2.2).bind fun x3 => some (x3.1, x3.2)) else ((f_X10_fail 5 x2.2).bind fun x4 => some (x4.1, x4.2))) else f_X10_fewestCuts_22 x2.2)
theorem e_X10_fewestCuts {Y : List (Nat × Nat)} (d : Nat) (a1 : Int) (a2 : Int) (M : AM) (x : Int) (N : AM) (h : f_X10_fewestCuts a1 a2 M = some (x, N)) : Ev Y (d + 3) m_X10_fewestCuts 0 [some (vR 15 20 0), some (vI a1), some (vI a2)] [] M (some (vI x)) N := by
  unfold f_X10_fewestCuts at h
  refine Z_blk k_X10_fewestCuts 3 (pc' := 5) (lo' := [some (vR 15 20 0), some (vI a1), some (vI a2)]) (st' := [vI a1, vR 23 11 0]) (M1 := M) rfl ?_
  obtain ⟨x1, hx1, h⟩ := Option.bind_eq_some_iff.mp h
  refine Z_callV8 k_X10_fewestCuts k_X1_isRoom rfl rfl (l_10_287) (ci := 1) rfl [vI a1] [] rfl rfl (Nat.le_of_ble_eq_true rfl) (Nat.le_of_ble_eq_true rfl) (e_X1_isRoom (d + 2) 23 a1 M _ _ hx1) ?_
  refine Z_if k_X10_fewestCuts rfl 22 rfl (fun hc => ?_) (fun hc => ?_)
  · replace h := of_pos hc h
    refine Z_mask [true, false, false] (lo0 := [some (vR 15 20 0), none, none]) rfl ?_
    exact e_X10_fewestCuts_22 d x1.2 _ _ h
  · replace h := of_neg hc h
    refine Z_blk k_X10_fewestCuts 3 (pc' := 16) (lo' := [some (vR 15 20 0), some (vI a1), some (vI a2)]) (st' := [vI a2, vR 23 11 0]) (M1 := x1.2) rfl ?_
    obtain ⟨x2, hx2, h⟩ := Option.bind_eq_some_iff.mp h
    refine Z_callV8 k_X10_fewestCuts k_X1_isRoom rfl rfl (l_10_287) (ci := 1) rfl [vI a2] [] rfl rfl (Nat.le_of_ble_eq_true rfl) (Nat.le_of_ble_eq_true rfl) (e_X1_isRoom (d + 2) 23 a2 x1.2 _ _ hx2) ?_
    refine Z_if k_X10_fewestCuts rfl 28 rfl (fun hc => ?_) (fun hc => ?_)
    · replace h := of_pos hc h
      refine Z_blk k_X10_fewestCuts 2 (pc' := 30) (lo' := [some (vR 15 20 0), some (vI a1), some (vI a2)]) (st' := [vI a2, vI a1]) (M1 := x2.2) rfl ?_
      refine Z_icmp k_X10_fewestCuts rfl 41 rfl (fun hc => ?_) (fun hc => ?_)
      · replace h := of_pos hc h
        refine Z_blk k_X10_fewestCuts 6 (pc' := 51) (lo' := [some (vR 15 20 0), some (vI a1), some (vI a2)]) (st' := [vI a2, vI a1, vR 23 11 0, vR 63 17 0]) (M1 := x2.2) rfl ?_
        obtain ⟨x3, hx3, h⟩ := Option.bind_eq_some_iff.mp h
        refine Z_callV8 k_X10_fewestCuts k_X7_leastCuts rfl rfl (l_10_335) (ci := 7) rfl [vR 23 11 0, vI a1, vI a2] [] rfl rfl (Nat.le_of_ble_eq_true rfl) (Nat.le_of_ble_eq_true rfl) (e_X7_leastCuts (d + 0) a1 a2 x2.2 _ _ hx3) ?_
        cases h
        exact Z_ret ⟨Or.inl rfl, _, rfl⟩ rfl
      · replace h := of_neg hc h
        refine Z_blk k_X10_fewestCuts 2 (pc' := 35) (lo' := [some (vR 15 20 0), some (vI a1), some (vI a2)]) (st' := [vI 5, vR 15 20 0]) (M1 := x2.2) rfl ?_
        obtain ⟨x4, hx4, h⟩ := Option.bind_eq_some_iff.mp h
        refine Z_callV8 k_X10_fewestCuts k_X10_fail rfl rfl (l_10_130) (ci := 10) rfl [vI 5] [] rfl rfl (Nat.le_of_ble_eq_true rfl) (Nat.le_of_ble_eq_true rfl) (e_X10_fail (d + 2) 5 x2.2 _ _ hx4) ?_
        refine Z_blk k_X10_fewestCuts 1 (pc' := 54) (lo' := [some (vR 15 20 0), some (vI a1), some (vI a2)]) (st' := [vI x4.1]) (M1 := x4.2) rfl ?_
        cases h
        exact Z_ret ⟨Or.inl rfl, _, rfl⟩ rfl
    · replace h := of_neg hc h
      refine Z_mask [true, false, false] (lo0 := [some (vR 15 20 0), none, none]) rfl ?_
      exact e_X10_fewestCuts_22 d x2.2 _ _ h
