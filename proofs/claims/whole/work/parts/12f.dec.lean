def f_X11_isWord (a1 : Int) (M : AM) : Option (Int × AM) := if ¬ M 0 14 = 1 then some (0, M) else (if ¬ l_cmp (M 0 19) a1 = 0 then some (0, M) else some (1, M))
theorem e_X11_isWord {Y : List (Nat × Nat)} (d : Nat) (a1 : Int) (M : AM) (x : Int) (N : AM) (h : f_X11_isWord a1 M = some (x, N)) : Ev Y (d + 0) m_X11_isWord 0 [some (vR 0 21 0), some (vL a1), none] [] M (some (vI x)) N := by
  unfold f_X11_isWord at h
  refine Z_blk k_X11_isWord 3 (pc' := 5) (lo' := [some (vR 0 21 0), some (vL a1), none]) (st' := [vI 1, vI (M 0 14)]) (M1 := M) rfl ?_
  refine Z_icmp k_X11_isWord rfl 21 rfl (fun hc => ?_) (fun hc => ?_)
  · replace h := of_pos hc h
    refine Z_blk k_X11_isWord 1 (pc' := 22) (lo' := [some (vR 0 21 0), some (vL a1), none]) (st' := [vI 0]) (M1 := M) rfl ?_
    cases h
    exact Z_ret ⟨Or.inr ⟨rfl, Or.inl rfl⟩, _, rfl⟩ rfl
  · replace h := of_neg hc h
    refine Z_blk k_X11_isWord 4 (pc' := 14) (lo' := [some (vR 0 21 0), some (vL a1), none]) (st' := [vI (l_cmp (M 0 19) a1)]) (M1 := M) rfl ?_
    refine Z_if k_X11_isWord rfl 21 rfl (fun hc => ?_) (fun hc => ?_)
    · replace h := of_pos hc h
      refine Z_blk k_X11_isWord 1 (pc' := 22) (lo' := [some (vR 0 21 0), some (vL a1), none]) (st' := [vI 0]) (M1 := M) rfl ?_
      cases h
      exact Z_ret ⟨Or.inr ⟨rfl, Or.inl rfl⟩, _, rfl⟩ rfl
    · replace h := of_neg hc h
      refine Z_blk k_X11_isWord 2 (pc' := 22) (lo' := [some (vR 0 21 0), some (vL a1), none]) (st' := [vI 1]) (M1 := M) rfl ?_
      cases h
      exact Z_ret ⟨Or.inr ⟨rfl, Or.inr rfl⟩, _, rfl⟩ rfl
theorem l_11_149 : zhas 6233 (Jvm.Cond.methodLink "BellPullHouseModel" 149 yX11_spelled) = true := by decide +kernel
theorem l_11_153 : zhas 6236 (Jvm.Cond.methodLink "BellPullHouseModel" 153 yX11_isWord) = true := by decide +kernel
def f_X11_isPower (M : AM) : Option (Int × AM) := (f_X11_spelled 112 111 119 101 114 0 M).bind fun x1 => (f_X11_isWord x1.1 x1.2).bind fun x2 => if x2.1 = 0 ∨ x2.1 = 1 then some (x2.1, x2.2) else none
theorem e_X11_isPower {Y : List (Nat × Nat)} (d : Nat) (M : AM) (x : Int) (N : AM) (h : f_X11_isPower M = some (x, N)) : Ev Y (d + 1) m_X11_isPower 0 [some (vR 0 21 0)] [] M (some (vI x)) N := by
  unfold f_X11_isPower at h
  refine Z_blk k_X11_isPower 7 (pc' := 12) (lo' := [some (vR 0 21 0)]) (st' := [vI 0, vI 114, vI 101, vI 119, vI 111, vI 112, vR 0 21 0]) (M1 := M) rfl ?_
  obtain ⟨x1, hx1, h⟩ := Option.bind_eq_some_iff.mp h
  refine Z_callS8 k_X11_isPower k_X11_spelled rfl rfl (l_11_149) [vI 112, vI 111, vI 119, vI 101, vI 114, vI 0] [vR 0 21 0] rfl rfl (Nat.le_of_ble_eq_true rfl) (Nat.le_of_ble_eq_true rfl) (e_X11_spelled (d + 0) 112 111 119 101 114 0 M _ _ hx1) ?_
  obtain ⟨x2, hx2, h⟩ := Option.bind_eq_some_iff.mp h
  refine Z_callV8 k_X11_isPower k_X11_isWord rfl rfl (l_11_153) (ci := 11) rfl [vL x1.1] [] rfl rfl (Nat.le_of_ble_eq_true rfl) (Nat.le_of_ble_eq_true rfl) (e_X11_isWord (d + 0) x1.1 x1.2 _ _ hx2) ?_
  obtain ⟨hc3, h⟩ := of_grd h
  cases h
  exact Z_ret ⟨Or.inr ⟨rfl, hc3⟩, _, rfl⟩ rfl
def f_X11_isOdds (M : AM) : Option (Int × AM) := (f_X11_spelled 111 100 100 115 0 0 M).bind fun x1 => (f_X11_isWord x1.1 x1.2).bind fun x2 => if x2.1 = 0 ∨ x2.1 = 1 then some (x2.1, x2.2) else none
theorem e_X11_isOdds {Y : List (Nat × Nat)} (d : Nat) (M : AM) (x : Int) (N : AM) (h : f_X11_isOdds M = some (x, N)) : Ev Y (d + 1) m_X11_isOdds 0 [some (vR 0 21 0)] [] M (some (vI x)) N := by
  unfold f_X11_isOdds at h
  refine Z_blk k_X11_isOdds 7 (pc' := 11) (lo' := [some (vR 0 21 0)]) (st' := [vI 0, vI 0, vI 115, vI 100, vI 100, vI 111, vR 0 21 0]) (M1 := M) rfl ?_
  obtain ⟨x1, hx1, h⟩ := Option.bind_eq_some_iff.mp h
  refine Z_callS8 k_X11_isOdds k_X11_spelled rfl rfl (l_11_149) [vI 111, vI 100, vI 100, vI 115, vI 0, vI 0] [vR 0 21 0] rfl rfl (Nat.le_of_ble_eq_true rfl) (Nat.le_of_ble_eq_true rfl) (e_X11_spelled (d + 0) 111 100 100 115 0 0 M _ _ hx1) ?_
  obtain ⟨x2, hx2, h⟩ := Option.bind_eq_some_iff.mp h
  refine Z_callV8 k_X11_isOdds k_X11_isWord rfl rfl (l_11_153) (ci := 11) rfl [vL x1.1] [] rfl rfl (Nat.le_of_ble_eq_true rfl) (Nat.le_of_ble_eq_true rfl) (e_X11_isWord (d + 0) x1.1 x1.2 _ _ hx2) ?_
  obtain ⟨hc3, h⟩ := of_grd h
  cases h
  exact Z_ret ⟨Or.inr ⟨rfl, hc3⟩, _, rfl⟩ rfl
def f_X11_isRoom (M : AM) : Option (Int × AM) := (f_X11_spelled 114 111 111 109 0 0 M).bind fun x1 => (f_X11_isWord x1.1 x1.2).bind fun x2 => if x2.1 = 0 ∨ x2.1 = 1 then some (x2.1, x2.2) else none
theorem e_X11_isRoom {Y : List (Nat × Nat)} (d : Nat) (M : AM) (x : Int) (N : AM) (h : f_X11_isRoom M = some (x, N)) : Ev Y (d + 1) m_X11_isRoom 0 [some (vR 0 21 0)] [] M (some (vI x)) N := by
  unfold f_X11_isRoom at h
  refine Z_blk k_X11_isRoom 7 (pc' := 11) (lo' := [some (vR 0 21 0)]) (st' := [vI 0, vI 0, vI 109, vI 111, vI 111, vI 114, vR 0 21 0]) (M1 := M) rfl ?_
  obtain ⟨x1, hx1, h⟩ := Option.bind_eq_some_iff.mp h
  refine Z_callS8 k_X11_isRoom k_X11_spelled rfl rfl (l_11_149) [vI 114, vI 111, vI 111, vI 109, vI 0, vI 0] [vR 0 21 0] rfl rfl (Nat.le_of_ble_eq_true rfl) (Nat.le_of_ble_eq_true rfl) (e_X11_spelled (d + 0) 114 111 111 109 0 0 M _ _ hx1) ?_
  obtain ⟨x2, hx2, h⟩ := Option.bind_eq_some_iff.mp h
  refine Z_callV8 k_X11_isRoom k_X11_isWord rfl rfl (l_11_153) (ci := 11) rfl [vL x1.1] [] rfl rfl (Nat.le_of_ble_eq_true rfl) (Nat.le_of_ble_eq_true rfl) (e_X11_isWord (d + 0) x1.1 x1.2 _ _ hx2) ?_
  obtain ⟨hc3, h⟩ := of_grd h
  cases h
  exact Z_ret ⟨Or.inr ⟨rfl, hc3⟩, _, rfl⟩ rfl
def f_X11_isWire (M : AM) : Option (Int × AM) := (f_X11_spelled 119 105 114 101 0 0 M).bind fun x1 => (f_X11_isWord x1.1 x1.2).bind fun x2 => if x2.1 = 0 ∨ x2.1 = 1 then some (x2.1, x2.2) else none
theorem e_X11_isWire {Y : List (Nat × Nat)} (d : Nat) (M : AM) (x : Int) (N : AM) (h : f_X11_isWire M = some (x, N)) : Ev Y (d + 1) m_X11_isWire 0 [some (vR 0 21 0)] [] M (some (vI x)) N := by
  unfold f_X11_isWire at h
  refine Z_blk k_X11_isWire 7 (pc' := 11) (lo' := [some (vR 0 21 0)]) (st' := [vI 0, vI 0, vI 101, vI 114, vI 105, vI 119, vR 0 21 0]) (M1 := M) rfl ?_
  obtain ⟨x1, hx1, h⟩ := Option.bind_eq_some_iff.mp h
  refine Z_callS8 k_X11_isWire k_X11_spelled rfl rfl (l_11_149) [vI 119, vI 105, vI 114, vI 101, vI 0, vI 0] [vR 0 21 0] rfl rfl (Nat.le_of_ble_eq_true rfl) (Nat.le_of_ble_eq_true rfl) (e_X11_spelled (d + 0) 119 105 114 101 0 0 M _ _ hx1) ?_
  obtain ⟨x2, hx2, h⟩ := Option.bind_eq_some_iff.mp h
  refine Z_callV8 k_X11_isWire k_X11_isWord rfl rfl (l_11_153) (ci := 11) rfl [vL x1.1] [] rfl rfl (Nat.le_of_ble_eq_true rfl) (Nat.le_of_ble_eq_true rfl) (e_X11_isWord (d + 0) x1.1 x1.2 _ _ hx2) ?_
  obtain ⟨hc3, h⟩ := of_grd h
  cases h
  exact Z_ret ⟨Or.inr ⟨rfl, hc3⟩, _, rfl⟩ rfl
def f_X11_isFrom (M : AM) : Option (Int × AM) := (f_X11_spelled 102 114 111 109 0 0 M).bind fun x1 => (f_X11_isWord x1.1 x1.2).bind fun x2 => if x2.1 = 0 ∨ x2.1 = 1 then some (x2.1, x2.2) else none
theorem e_X11_isFrom {Y : List (Nat × Nat)} (d : Nat) (M : AM) (x : Int) (N : AM) (h : f_X11_isFrom M = some (x, N)) : Ev Y (d + 1) m_X11_isFrom 0 [some (vR 0 21 0)] [] M (some (vI x)) N := by
  unfold f_X11_isFrom at h
  refine Z_blk k_X11_isFrom 7 (pc' := 11) (lo' := [some (vR 0 21 0)]) (st' := [vI 0, vI 0, vI 109, vI 111, vI 114, vI 102, vR 0 21 0]) (M1 := M) rfl ?_
  obtain ⟨x1, hx1, h⟩ := Option.bind_eq_some_iff.mp h
  refine Z_callS8 k_X11_isFrom k_X11_spelled rfl rfl (l_11_149) [vI 102, vI 114, vI 111, vI 109, vI 0, vI 0] [vR 0 21 0] rfl rfl (Nat.le_of_ble_eq_true rfl) (Nat.le_of_ble_eq_true rfl) (e_X11_spelled (d + 0) 102 114 111 109 0 0 M _ _ hx1) ?_
  obtain ⟨x2, hx2, h⟩ := Option.bind_eq_some_iff.mp h
  refine Z_callV8 k_X11_isFrom k_X11_isWord rfl rfl (l_11_153) (ci := 11) rfl [vL x1.1] [] rfl rfl (Nat.le_of_ble_eq_true rfl) (Nat.le_of_ble_eq_true rfl) (e_X11_isWord (d + 0) x1.1 x1.2 _ _ hx2) ?_
  obtain ⟨hc3, h⟩ := of_grd h
  cases h
  exact Z_ret ⟨Or.inr ⟨rfl, hc3⟩, _, rfl⟩ rfl
def f_X11_isTo (M : AM) : Option (Int × AM) := (f_X11_spelled 116 111 0 0 0 0 M).bind fun x1 => (f_X11_isWord x1.1 x1.2).bind fun x2 => if x2.1 = 0 ∨ x2.1 = 1 then some (x2.1, x2.2) else none
theorem e_X11_isTo {Y : List (Nat × Nat)} (d : Nat) (M : AM) (x : Int) (N : AM) (h : f_X11_isTo M = some (x, N)) : Ev Y (d + 1) m_X11_isTo 0 [some (vR 0 21 0)] [] M (some (vI x)) N := by
  unfold f_X11_isTo at h
  refine Z_blk k_X11_isTo 7 (pc' := 9) (lo' := [some (vR 0 21 0)]) (st' := [vI 0, vI 0, vI 0, vI 0, vI 111, vI 116, vR 0 21 0]) (M1 := M) rfl ?_
  obtain ⟨x1, hx1, h⟩ := Option.bind_eq_some_iff.mp h
  refine Z_callS8 k_X11_isTo k_X11_spelled rfl rfl (l_11_149) [vI 116, vI 111, vI 0, vI 0, vI 0, vI 0] [vR 0 21 0] rfl rfl (Nat.le_of_ble_eq_true rfl) (Nat.le_of_ble_eq_true rfl) (e_X11_spelled (d + 0) 116 111 0 0 0 0 M _ _ hx1) ?_
  obtain ⟨x2, hx2, h⟩ := Option.bind_eq_some_iff.mp h
  refine Z_callV8 k_X11_isTo k_X11_isWord rfl rfl (l_11_153) (ci := 11) rfl [vL x1.1] [] rfl rfl (Nat.le_of_ble_eq_true rfl) (Nat.le_of_ble_eq_true rfl) (e_X11_isWord (d + 0) x1.1 x1.2 _ _ hx2) ?_
  obtain ⟨hc3, h⟩ := of_grd h
  cases h
  exact Z_ret ⟨Or.inr ⟨rfl, hc3⟩, _, rfl⟩ rfl
def f_X11_isSlack (M : AM) : Option (Int × AM) := (f_X11_spelled 115 108 97 99 107 0 M).bind fun x1 => (f_X11_isWord x1.1 x1.2).bind fun x2 => if x2.1 = 0 ∨ x2.1 = 1 then some (x2.1, x2.2) else none
theorem e_X11_isSlack {Y : List (Nat × Nat)} (d : Nat) (M : AM) (x : Int) (N : AM) (h : f_X11_isSlack M = some (x, N)) : Ev Y (d + 1) m_X11_isSlack 0 [some (vR 0 21 0)] [] M (some (vI x)) N := by
  unfold f_X11_isSlack at h
  refine Z_blk k_X11_isSlack 7 (pc' := 12) (lo' := [some (vR 0 21 0)]) (st' := [vI 0, vI 107, vI 99, vI 97, vI 108, vI 115, vR 0 21 0]) (M1 := M) rfl ?_
  obtain ⟨x1, hx1, h⟩ := Option.bind_eq_some_iff.mp h
  refine Z_callS8 k_X11_isSlack k_X11_spelled rfl rfl (l_11_149) [vI 115, vI 108, vI 97, vI 99, vI 107, vI 0] [vR 0 21 0] rfl rfl (Nat.le_of_ble_eq_true rfl) (Nat.le_of_ble_eq_true rfl) (e_X11_spelled (d + 0) 115 108 97 99 107 0 M _ _ hx1) ?_
  obtain ⟨x2, hx2, h⟩ := Option.bind_eq_some_iff.mp h
  refine Z_callV8 k_X11_isSlack k_X11_isWord rfl rfl (l_11_153) (ci := 11) rfl [vL x1.1] [] rfl rfl (Nat.le_of_ble_eq_true rfl) (Nat.le_of_ble_eq_true rfl) (e_X11_isWord (d + 0) x1.1 x1.2 _ _ hx2) ?_
  obtain ⟨hc3, h⟩ := of_grd h
  cases h
  exact Z_ret ⟨Or.inr ⟨rfl, hc3⟩, _, rfl⟩ rfl
def f_X11_isCouple (M : AM) : Option (Int × AM) := (f_X11_spelled 99 111 117 112 108 101 M).bind fun x1 => (f_X11_isWord x1.1 x1.2).bind fun x2 => if x2.1 = 0 ∨ x2.1 = 1 then some (x2.1, x2.2) else none
theorem e_X11_isCouple {Y : List (Nat × Nat)} (d : Nat) (M : AM) (x : Int) (N : AM) (h : f_X11_isCouple M = some (x, N)) : Ev Y (d + 1) m_X11_isCouple 0 [some (vR 0 21 0)] [] M (some (vI x)) N := by
  unfold f_X11_isCouple at h
  refine Z_blk k_X11_isCouple 7 (pc' := 13) (lo' := [some (vR 0 21 0)]) (st' := [vI 101, vI 108, vI 112, vI 117, vI 111, vI 99, vR 0 21 0]) (M1 := M) rfl ?_
  obtain ⟨x1, hx1, h⟩ := Option.bind_eq_some_iff.mp h
  refine Z_callS8 k_X11_isCouple k_X11_spelled rfl rfl (l_11_149) [vI 99, vI 111, vI 117, vI 112, vI 108, vI 101] [vR 0 21 0] rfl rfl (Nat.le_of_ble_eq_true rfl) (Nat.le_of_ble_eq_true rfl) (e_X11_spelled (d + 0) 99 111 117 112 108 101 M _ _ hx1) ?_
  obtain ⟨x2, hx2, h⟩ := Option.bind_eq_some_iff.mp h
  refine Z_callV8 k_X11_isCouple k_X11_isWord rfl rfl (l_11_153) (ci := 11) rfl [vL x1.1] [] rfl rfl (Nat.le_of_ble_eq_true rfl) (Nat.le_of_ble_eq_true rfl) (e_X11_isWord (d + 0) x1.1 x1.2 _ _ hx2) ?_
  obtain ⟨hc3, h⟩ := of_grd h
  cases h
  exact Z_ret ⟨Or.inr ⟨rfl, hc3⟩, _, rfl⟩ rfl
def f_X11_isHe (M : AM) : Option (Int × AM) := (f_X11_spelled 104 101 0 0 0 0 M).bind fun x1 => (f_X11_isWord x1.1 x1.2).bind fun x2 => if x2.1 = 0 ∨ x2.1 = 1 then some (x2.1, x2.2) else none
theorem e_X11_isHe {Y : List (Nat × Nat)} (d : Nat) (M : AM) (x : Int) (N : AM) (h : f_X11_isHe M = some (x, N)) : Ev Y (d + 1) m_X11_isHe 0 [some (vR 0 21 0)] [] M (some (vI x)) N := by
  unfold f_X11_isHe at h
  refine Z_blk k_X11_isHe 7 (pc' := 9) (lo' := [some (vR 0 21 0)]) (st' := [vI 0, vI 0, vI 0, vI 0, vI 101, vI 104, vR 0 21 0]) (M1 := M) rfl ?_
  obtain ⟨x1, hx1, h⟩ := Option.bind_eq_some_iff.mp h
  refine Z_callS8 k_X11_isHe k_X11_spelled rfl rfl (l_11_149) [vI 104, vI 101, vI 0, vI 0, vI 0, vI 0] [vR 0 21 0] rfl rfl (Nat.le_of_ble_eq_true rfl) (Nat.le_of_ble_eq_true rfl) (e_X11_spelled (d + 0) 104 101 0 0 0 0 M _ _ hx1) ?_
  obtain ⟨x2, hx2, h⟩ := Option.bind_eq_some_iff.mp h
  refine Z_callV8 k_X11_isHe k_X11_isWord rfl rfl (l_11_153) (ci := 11) rfl [vL x1.1] [] rfl rfl (Nat.le_of_ble_eq_true rfl) (Nat.le_of_ble_eq_true rfl) (e_X11_isWord (d + 0) x1.1 x1.2 _ _ hx2) ?_
  obtain ⟨hc3, h⟩ := of_grd h
  cases h
  exact Z_ret ⟨Or.inr ⟨rfl, hc3⟩, _, rfl⟩ rfl
def f_X11_isShe (M : AM) : Option (Int × AM) := (f_X11_spelled 115 104 101 0 0 0 M).bind fun x1 => (f_X11_isWord x1.1 x1.2).bind fun x2 => if x2.1 = 0 ∨ x2.1 = 1 then some (x2.1, x2.2) else none
theorem e_X11_isShe {Y : List (Nat × Nat)} (d : Nat) (M : AM) (x : Int) (N : AM) (h : f_X11_isShe M = some (x, N)) : Ev Y (d + 1) m_X11_isShe 0 [some (vR 0 21 0)] [] M (some (vI x)) N := by
  unfold f_X11_isShe at h
  refine Z_blk k_X11_isShe 7 (pc' := 10) (lo' := [some (vR 0 21 0)]) (st' := [vI 0, vI 0, vI 0, vI 101, vI 104, vI 115, vR 0 21 0]) (M1 := M) rfl ?_
  obtain ⟨x1, hx1, h⟩ := Option.bind_eq_some_iff.mp h
  refine Z_callS8 k_X11_isShe k_X11_spelled rfl rfl (l_11_149) [vI 115, vI 104, vI 101, vI 0, vI 0, vI 0] [vR 0 21 0] rfl rfl (Nat.le_of_ble_eq_true rfl) (Nat.le_of_ble_eq_true rfl) (e_X11_spelled (d + 0) 115 104 101 0 0 0 M _ _ hx1) ?_
  obtain ⟨x2, hx2, h⟩ := Option.bind_eq_some_iff.mp h
  refine Z_callV8 k_X11_isShe k_X11_isWord rfl rfl (l_11_153) (ci := 11) rfl [vL x1.1] [] rfl rfl (Nat.le_of_ble_eq_true rfl) (Nat.le_of_ble_eq_true rfl) (e_X11_isWord (d + 0) x1.1 x1.2 _ _ hx2) ?_
  obtain ⟨hc3, h⟩ := of_grd h
  cases h
  exact Z_ret ⟨Or.inr ⟨rfl, hc3⟩, _, rfl⟩ rfl
def f_X11_isLove (M : AM) : Option (Int × AM) := (f_X11_spelled 108 111 118 101 0 0 M).bind fun x1 => (f_X11_isWord x1.1 x1.2).bind fun x2 => if x2.1 = 0 ∨ x2.1 = 1 then some (x2.1, x2.2) else none
theorem e_X11_isLove {Y : List (Nat × Nat)} (d : Nat) (M : AM) (x : Int) (N : AM) (h : f_X11_isLove M = some (x, N)) : Ev Y (d + 1) m_X11_isLove 0 [some (vR 0 21 0)] [] M (some (vI x)) N := by
  unfold f_X11_isLove at h
  refine Z_blk k_X11_isLove 7 (pc' := 11) (lo' := [some (vR 0 21 0)]) (st' := [vI 0, vI 0, vI 101, vI 118, vI 111, vI 108, vR 0 21 0]) (M1 := M) rfl ?_
  obtain ⟨x1, hx1, h⟩ := Option.bind_eq_some_iff.mp h
  refine Z_callS8 k_X11_isLove k_X11_spelled rfl rfl (l_11_149) [vI 108, vI 111, vI 118, vI 101, vI 0, vI 0] [vR 0 21 0] rfl rfl (Nat.le_of_ble_eq_true rfl) (Nat.le_of_ble_eq_true rfl) (e_X11_spelled (d + 0) 108 111 118 101 0 0 M _ _ hx1) ?_
  obtain ⟨x2, hx2, h⟩ := Option.bind_eq_some_iff.mp h
  refine Z_callV8 k_X11_isLove k_X11_isWord rfl rfl (l_11_153) (ci := 11) rfl [vL x1.1] [] rfl rfl (Nat.le_of_ble_eq_true rfl) (Nat.le_of_ble_eq_true rfl) (e_X11_isWord (d + 0) x1.1 x1.2 _ _ hx2) ?_
  obtain ⟨hc3, h⟩ := of_grd h
  cases h
  exact Z_ret ⟨Or.inr ⟨rfl, hc3⟩, _, rfl⟩ rfl
def f_X11_stepWord (M : AM) : Option (Int × AM) := (f_X11_spelled 100 97 121 0 0 0 M).bind fun x1 => (f_X11_isWord x1.1 x1.2).bind fun x2 => if x2.1 = 0 then ((f_X11_spelled 100 97 109 112 0 0 x2.2).bind fun x3 => (f_X11_isWord x3.1 x3.2).bind fun x4 => if x4.1 = 0 then ((f_X11_spelled 100 114 121 0 0 0 x4.2).bind fun x5 => (f_X11_isWord x5.1 x5.2).bind fun x6 => if x6.1 = 0 then ((f_X11_spelled 109 101 110 100 0 0 x6.2).bind fun x7 => (f_X11_isWord x7.1 x7.2).bind fun x8 => if x8.1 = 0 then ((f_X11_spelled 99 117 116 0 0 0 x8.2).bind fun x9 => (f_X11_isWord x9.1 x9.2).bind fun x10 => if x10.1 = 0 then ((f_X11_spelled 97 110 121 0 0 0 x10.2).bind fun x11 => (f_X11_isWord x11.1 x11.2).bind fun x12 => if x12.1 = 0 then ((f_X11_spelled 119 104 101 110 0 0 x12.2).bind fun x13 => (f_X11_isWord x13.1 x13.2).bind fun x14 => if x14.1 = 0 then ((f_X11_spelled 108 111 111 112 0 0 x14.2).bind fun x15 => (f_X11_isWord x15.1 x15.2).bind fun x16 => if x16.1 = 0 then ((f_X11_spelled 115 116 111 112 0 0 x16.2).bind fun x17 => (f_X11_isWord x17.1 x17.2).bind fun x18 => if x18.1 = 0 then some ((-1), x18.2) else some (8, x18.2)) else some (7, x16.2)) else some (6, x14.2)) else some (5, x12.2)) else some (4, x10.2)) else some (3, x8.2)) else some (2, x6.2)) else some (1, x4.2)) else some (0, x2.2)
theorem e_X11_stepWord {Y : List (Nat × Nat)} (d : Nat) (M : AM) (x : Int) (N : AM) (h : f_X11_stepWord M = some (x, N)) : Ev Y (d + 1) m_X11_stepWord 0 [some (vR 0 21 0)] [] M (some (vI x)) N := by
  unfold f_X11_stepWord at h
  refine Z_blk k_X11_stepWord 7 (pc' := 10) (lo' := [some (vR 0 21 0)]) (st' := [vI 0, vI 0, vI 0, vI 121, vI 97, vI 100, vR 0 21 0]) (M1 := M) rfl ?_
  obtain ⟨x1, hx1, h⟩ := Option.bind_eq_some_iff.mp h
  refine Z_callS8 k_X11_stepWord k_X11_spelled rfl rfl (l_11_149) [vI 100, vI 97, vI 121, vI 0, vI 0, vI 0] [vR 0 21 0] rfl rfl (Nat.le_of_ble_eq_true rfl) (Nat.le_of_ble_eq_true rfl) (e_X11_spelled (d + 0) 100 97 121 0 0 0 M _ _ hx1) ?_
  obtain ⟨x2, hx2, h⟩ := Option.bind_eq_some_iff.mp h
  refine Z_callV8 k_X11_stepWord k_X11_isWord rfl rfl (l_11_153) (ci := 11) rfl [vL x1.1] [] rfl rfl (Nat.le_of_ble_eq_true rfl) (Nat.le_of_ble_eq_true rfl) (e_X11_isWord (d + 0) x1.1 x1.2 _ _ hx2) ?_
  refine Z_if k_X11_stepWord rfl 21 rfl (fun hc => ?_) (fun hc => ?_)
  · replace h := of_pos hc h
    refine Z_blk k_X11_stepWord 7 (pc' := 32) (lo' := [some (vR 0 21 0)]) (st' := [vI 0, vI 0, vI 112, vI 109, vI 97, vI 100, vR 0 21 0]) (M1 := x2.2) rfl ?_
    obtain ⟨x3, hx3, h⟩ := Option.bind_eq_some_iff.mp h
    refine Z_callS8 k_X11_stepWord k_X11_spelled rfl rfl (l_11_149) [vI 100, vI 97, vI 109, vI 112, vI 0, vI 0] [vR 0 21 0] rfl rfl (Nat.le_of_ble_eq_true rfl) (Nat.le_of_ble_eq_true rfl) (e_X11_spelled (d + 0) 100 97 109 112 0 0 x2.2 _ _ hx3) ?_
    obtain ⟨x4, hx4, h⟩ := Option.bind_eq_some_iff.mp h
    refine Z_callV8 k_X11_stepWord k_X11_isWord rfl rfl (l_11_153) (ci := 11) rfl [vL x3.1] [] rfl rfl (Nat.le_of_ble_eq_true rfl) (Nat.le_of_ble_eq_true rfl) (e_X11_isWord (d + 0) x3.1 x3.2 _ _ hx4) ?_
    refine Z_if k_X11_stepWord rfl 43 rfl (fun hc => ?_) (fun hc => ?_)
    · replace h := of_pos hc h
      refine Z_blk k_X11_stepWord 7 (pc' := 53) (lo' := [some (vR 0 21 0)]) (st' := [vI 0, vI 0, vI 0, vI 121, vI 114, vI 100, vR 0 21 0]) (M1 := x4.2) rfl ?_
      obtain ⟨x5, hx5, h⟩ := Option.bind_eq_some_iff.mp h
      refine Z_callS8 k_X11_stepWord k_X11_spelled rfl rfl (l_11_149) [vI 100, vI 114, vI 121, vI 0, vI 0, vI 0] [vR 0 21 0] rfl rfl (Nat.le_of_ble_eq_true rfl) (Nat.le_of_ble_eq_true rfl) (e_X11_spelled (d + 0) 100 114 121 0 0 0 x4.2 _ _ hx5) ?_
      obtain ⟨x6, hx6, h⟩ := Option.bind_eq_some_iff.mp h
      refine Z_callV8 k_X11_stepWord k_X11_isWord rfl rfl (l_11_153) (ci := 11) rfl [vL x5.1] [] rfl rfl (Nat.le_of_ble_eq_true rfl) (Nat.le_of_ble_eq_true rfl) (e_X11_isWord (d + 0) x5.1 x5.2 _ _ hx6) ?_
      refine Z_if k_X11_stepWord rfl 64 rfl (fun hc => ?_) (fun hc => ?_)
      · replace h := of_pos hc h
        refine Z_blk k_X11_stepWord 7 (pc' := 75) (lo' := [some (vR 0 21 0)]) (st' := [vI 0, vI 0, vI 100, vI 110, vI 101, vI 109, vR 0 21 0]) (M1 := x6.2) rfl ?_
        obtain ⟨x7, hx7, h⟩ := Option.bind_eq_some_iff.mp h
        refine Z_callS8 k_X11_stepWord k_X11_spelled rfl rfl (l_11_149) [vI 109, vI 101, vI 110, vI 100, vI 0, vI 0] [vR 0 21 0] rfl rfl (Nat.le_of_ble_eq_true rfl) (Nat.le_of_ble_eq_true rfl) (e_X11_spelled (d + 0) 109 101 110 100 0 0 x6.2 _ _ hx7) ?_
        obtain ⟨x8, hx8, h⟩ := Option.bind_eq_some_iff.mp h
        refine Z_callV8 k_X11_stepWord k_X11_isWord rfl rfl (l_11_153) (ci := 11) rfl [vL x7.1] [] rfl rfl (Nat.le_of_ble_eq_true rfl) (Nat.le_of_ble_eq_true rfl) (e_X11_isWord (d + 0) x7.1 x7.2 _ _ hx8) ?_
        refine Z_if k_X11_stepWord rfl 86 rfl (fun hc => ?_) (fun hc => ?_)
        · replace h := of_pos hc h
          refine Z_blk k_X11_stepWord 7 (pc' := 96) (lo' := [some (vR 0 21 0)]) (st' := [vI 0, vI 0, vI 0, vI 116, vI 117, vI 99, vR 0 21 0]) (M1 := x8.2) rfl ?_
          obtain ⟨x9, hx9, h⟩ := Option.bind_eq_some_iff.mp h
          refine Z_callS8 k_X11_stepWord k_X11_spelled rfl rfl (l_11_149) [vI 99, vI 117, vI 116, vI 0, vI 0, vI 0] [vR 0 21 0] rfl rfl (Nat.le_of_ble_eq_true rfl) (Nat.le_of_ble_eq_true rfl) (e_X11_spelled (d + 0) 99 117 116 0 0 0 x8.2 _ _ hx9) ?_
          obtain ⟨x10, hx10, h⟩ := Option.bind_eq_some_iff.mp h
          refine Z_callV8 k_X11_stepWord k_X11_isWord rfl rfl (l_11_153) (ci := 11) rfl [vL x9.1] [] rfl rfl (Nat.le_of_ble_eq_true rfl) (Nat.le_of_ble_eq_true rfl) (e_X11_isWord (d + 0) x9.1 x9.2 _ _ hx10) ?_
          refine Z_if k_X11_stepWord rfl 107 rfl (fun hc => ?_) (fun hc => ?_)
          · replace h := of_pos hc h
            refine Z_blk k_X11_stepWord 7 (pc' := 117) (lo' := [some (vR 0 21 0)]) (st' := [vI 0, vI 0, vI 0, vI 121, vI 110, vI 97, vR 0 21 0]) (M1 := x10.2) rfl ?_
            obtain ⟨x11, hx11, h⟩ := Option.bind_eq_some_iff.mp h
            refine Z_callS8 k_X11_stepWord k_X11_spelled rfl rfl (l_11_149) [vI 97, vI 110, vI 121, vI 0, vI 0, vI 0] [vR 0 21 0] rfl rfl (Nat.le_of_ble_eq_true rfl) (Nat.le_of_ble_eq_true rfl) (e_X11_spelled (d + 0) 97 110 121 0 0 0 x10.2 _ _ hx11) ?_
            obtain ⟨x12, hx12, h⟩ := Option.bind_eq_some_iff.mp h
            refine Z_callV8 k_X11_stepWord k_X11_isWord rfl rfl (l_11_153) (ci := 11) rfl [vL x11.1] [] rfl rfl (Nat.le_of_ble_eq_true rfl) (Nat.le_of_ble_eq_true rfl) (e_X11_isWord (d + 0) x11.1 x11.2 _ _ hx12) ?_
            refine Z_if k_X11_stepWord rfl 128 rfl (fun hc => ?_) (fun hc => ?_)
            · replace h := of_pos hc h
              refine Z_blk k_X11_stepWord 7 (pc' := 139) (lo' := [some (vR 0 21 0)]) (st' := [vI 0, vI 0, vI 110, vI 101, vI 104, vI 119, vR 0 21 0]) (M1 := x12.2) rfl ?_
              obtain ⟨x13, hx13, h⟩ := Option.bind_eq_some_iff.mp h
              refine Z_callS8 k_X11_stepWord k_X11_spelled rfl rfl (l_11_149) [vI 119, vI 104, vI 101, vI 110, vI 0, vI 0] [vR 0 21 0] rfl rfl (Nat.le_of_ble_eq_true rfl) (Nat.le_of_ble_eq_true rfl) (e_X11_spelled (d + 0) 119 104 101 110 0 0 x12.2 _ _ hx13) ?_
              obtain ⟨x14, hx14, h⟩ := Option.bind_eq_some_iff.mp h
              refine Z_callV8 k_X11_stepWord k_X11_isWord rfl rfl (l_11_153) (ci := 11) rfl [vL x13.1] [] rfl rfl (Nat.le_of_ble_eq_true rfl) (Nat.le_of_ble_eq_true rfl) (e_X11_isWord (d + 0) x13.1 x13.2 _ _ hx14) ?_
              refine Z_if k_X11_stepWord rfl 151 rfl (fun hc => ?_) (fun hc => ?_)
              · replace h := of_pos hc h
                refine Z_blk k_X11_stepWord 7 (pc' := 162) (lo' := [some (vR 0 21 0)]) (st' := [vI 0, vI 0, vI 112, vI 111, vI 111, vI 108, vR 0 21 0]) (M1 := x14.2) rfl ?_
                obtain ⟨x15, hx15, h⟩ := Option.bind_eq_some_iff.mp h
                refine Z_callS8 k_X11_stepWord k_X11_spelled rfl rfl (l_11_149) [vI 108, vI 111, vI 111, vI 112, vI 0, vI 0] [vR 0 21 0] rfl rfl (Nat.le_of_ble_eq_true rfl) (Nat.le_of_ble_eq_true rfl) (e_X11_spelled (d + 0) 108 111 111 112 0 0 x14.2 _ _ hx15) ?_
                obtain ⟨x16, hx16, h⟩ := Option.bind_eq_some_iff.mp h
                refine Z_callV8 k_X11_stepWord k_X11_isWord rfl rfl (l_11_153) (ci := 11) rfl [vL x15.1] [] rfl rfl (Nat.le_of_ble_eq_true rfl) (Nat.le_of_ble_eq_true rfl) (e_X11_isWord (d + 0) x15.1 x15.2 _ _ hx16) ?_
                refine Z_if k_X11_stepWord rfl 174 rfl (fun hc => ?_) (fun hc => ?_)
                · replace h := of_pos hc h
                  refine Z_blk k_X11_stepWord 7 (pc' := 185) (lo' := [some (vR 0 21 0)]) (st' := [vI 0, vI 0, vI 112, vI 111, vI 116, vI 115, vR 0 21 0]) (M1 := x16.2) rfl ?_
                  obtain ⟨x17, hx17, h⟩ := Option.bind_eq_some_iff.mp h
                  refine Z_callS8 k_X11_stepWord k_X11_spelled rfl rfl (l_11_149) [vI 115, vI 116, vI 111, vI 112, vI 0, vI 0] [vR 0 21 0] rfl rfl (Nat.le_of_ble_eq_true rfl) (Nat.le_of_ble_eq_true rfl) (e_X11_spelled (d + 0) 115 116 111 112 0 0 x16.2 _ _ hx17) ?_
                  obtain ⟨x18, hx18, h⟩ := Option.bind_eq_some_iff.mp h
                  refine Z_callV8 k_X11_stepWord k_X11_isWord rfl rfl (l_11_153) (ci := 11) rfl [vL x17.1] [] rfl rfl (Nat.le_of_ble_eq_true rfl) (Nat.le_of_ble_eq_true rfl) (e_X11_isWord (d + 0) x17.1 x17.2 _ _ hx18) ?_
                  refine Z_if k_X11_stepWord rfl 199 rfl (fun hc => ?_) (fun hc => ?_)
                  · replace h := of_pos hc h
                    refine Z_blk k_X11_stepWord 1 (pc' := 200) (lo' := [some (vR 0 21 0)]) (st' := [vI (-1)]) (M1 := x18.2) rfl ?_
                    cases h
                    exact Z_ret ⟨Or.inl rfl, _, rfl⟩ rfl
                  · replace h := of_neg hc h
                    refine Z_blk k_X11_stepWord 2 (pc' := 200) (lo' := [some (vR 0 21 0)]) (st' := [vI 8]) (M1 := x18.2) rfl ?_
                    cases h
                    exact Z_ret ⟨Or.inl rfl, _, rfl⟩ rfl
                · replace h := of_neg hc h
                  refine Z_blk k_X11_stepWord 1 (pc' := 173) (lo' := [some (vR 0 21 0)]) (st' := [vI 7]) (M1 := x16.2) rfl ?_
                  cases h
                  exact Z_ret ⟨Or.inl rfl, _, rfl⟩ rfl
              · replace h := of_neg hc h
                refine Z_blk k_X11_stepWord 1 (pc' := 150) (lo' := [some (vR 0 21 0)]) (st' := [vI 6]) (M1 := x14.2) rfl ?_
                cases h
                exact Z_ret ⟨Or.inl rfl, _, rfl⟩ rfl
            · replace h := of_neg hc h
              refine Z_blk k_X11_stepWord 1 (pc' := 127) (lo' := [some (vR 0 21 0)]) (st' := [vI 5]) (M1 := x12.2) rfl ?_
              cases h
              exact Z_ret ⟨Or.inl rfl, _, rfl⟩ rfl
          · replace h := of_neg hc h
            refine Z_blk k_X11_stepWord 1 (pc' := 106) (lo' := [some (vR 0 21 0)]) (st' := [vI 4]) (M1 := x10.2) rfl ?_
            cases h
            exact Z_ret ⟨Or.inl rfl, _, rfl⟩ rfl
        · replace h := of_neg hc h
          refine Z_blk k_X11_stepWord 1 (pc' := 85) (lo' := [some (vR 0 21 0)]) (st' := [vI 3]) (M1 := x8.2) rfl ?_
          cases h
          exact Z_ret ⟨Or.inl rfl, _, rfl⟩ rfl
      · replace h := of_neg hc h
        refine Z_blk k_X11_stepWord 1 (pc' := 63) (lo' := [some (vR 0 21 0)]) (st' := [vI 2]) (M1 := x6.2) rfl ?_
        cases h
        exact Z_ret ⟨Or.inl rfl, _, rfl⟩ rfl
    · replace h := of_neg hc h
      refine Z_blk k_X11_stepWord 1 (pc' := 42) (lo' := [some (vR 0 21 0)]) (st' := [vI 1]) (M1 := x4.2) rfl ?_
      cases h
      exact Z_ret ⟨Or.inl rfl, _, rfl⟩ rfl
  · replace h := of_neg hc h
    refine Z_blk k_X11_stepWord 1 (pc' := 20) (lo' := [some (vR 0 21 0)]) (st' := [vI 0]) (M1 := x2.2) rfl ?_
    cases h
    exact Z_ret ⟨Or.inl rfl, _, rfl⟩ rfl
theorem l_11_157 : zhas 7082 (Jvm.Cond.methodLink "BellPullHouseModel" 157 yX11_isLove) = true := by decide +kernel
def f_X11_testWord (M : AM) : Option (Int × AM) := (f_X11_spelled 114 117 110 103 0 0 M).bind fun x1 => (f_X11_isWord x1.1 x1.2).bind fun x2 => if x2.1 = 0 then ((f_X11_isLove x2.2).bind fun x3 => if x3.1 = 0 then ((f_X11_spelled 112 97 114 116 101 100 x3.2).bind fun x4 => (f_X11_isWord x4.1 x4.2).bind fun x5 => if x5.1 = 0 then some ((-1), x5.2) else some (2, x5.2)) else some (1, x3.2)) else some (0, x2.2)
theorem e_X11_testWord {Y : List (Nat × Nat)} (d : Nat) (M : AM) (x : Int) (N : AM) (h : f_X11_testWord M = some (x, N)) : Ev Y (d + 2) m_X11_testWord 0 [some (vR 0 21 0)] [] M (some (vI x)) N := by
  unfold f_X11_testWord at h
  refine Z_blk k_X11_testWord 7 (pc' := 11) (lo' := [some (vR 0 21 0)]) (st' := [vI 0, vI 0, vI 103, vI 110, vI 117, vI 114, vR 0 21 0]) (M1 := M) rfl ?_
  obtain ⟨x1, hx1, h⟩ := Option.bind_eq_some_iff.mp h
  refine Z_callS8 k_X11_testWord k_X11_spelled rfl rfl (l_11_149) [vI 114, vI 117, vI 110, vI 103, vI 0, vI 0] [vR 0 21 0] rfl rfl (Nat.le_of_ble_eq_true rfl) (Nat.le_of_ble_eq_true rfl) (e_X11_spelled (d + 1) 114 117 110 103 0 0 M _ _ hx1) ?_
  obtain ⟨x2, hx2, h⟩ := Option.bind_eq_some_iff.mp h
  refine Z_callV8 k_X11_testWord k_X11_isWord rfl rfl (l_11_153) (ci := 11) rfl [vL x1.1] [] rfl rfl (Nat.le_of_ble_eq_true rfl) (Nat.le_of_ble_eq_true rfl) (e_X11_isWord (d + 1) x1.1 x1.2 _ _ hx2) ?_
  refine Z_if k_X11_testWord rfl 22 rfl (fun hc => ?_) (fun hc => ?_)
  · replace h := of_pos hc h
    refine Z_blk k_X11_testWord 1 (pc' := 23) (lo' := [some (vR 0 21 0)]) (st' := [vR 0 21 0]) (M1 := x2.2) rfl ?_
    obtain ⟨x3, hx3, h⟩ := Option.bind_eq_some_iff.mp h
    refine Z_callV8 k_X11_testWord k_X11_isLove rfl rfl (l_11_157) (ci := 11) rfl [] [] rfl rfl (Nat.le_of_ble_eq_true rfl) (Nat.le_of_ble_eq_true rfl) (e_X11_isLove (d + 0) x2.2 _ _ hx3) ?_
    refine Z_if k_X11_testWord rfl 33 rfl (fun hc => ?_) (fun hc => ?_)
    · replace h := of_pos hc h
      refine Z_blk k_X11_testWord 7 (pc' := 46) (lo' := [some (vR 0 21 0)]) (st' := [vI 100, vI 101, vI 116, vI 114, vI 97, vI 112, vR 0 21 0]) (M1 := x3.2) rfl ?_
      obtain ⟨x4, hx4, h⟩ := Option.bind_eq_some_iff.mp h
      refine Z_callS8 k_X11_testWord k_X11_spelled rfl rfl (l_11_149) [vI 112, vI 97, vI 114, vI 116, vI 101, vI 100] [vR 0 21 0] rfl rfl (Nat.le_of_ble_eq_true rfl) (Nat.le_of_ble_eq_true rfl) (e_X11_spelled (d + 1) 112 97 114 116 101 100 x3.2 _ _ hx4) ?_
      obtain ⟨x5, hx5, h⟩ := Option.bind_eq_some_iff.mp h
      refine Z_callV8 k_X11_testWord k_X11_isWord rfl rfl (l_11_153) (ci := 11) rfl [vL x4.1] [] rfl rfl (Nat.le_of_ble_eq_true rfl) (Nat.le_of_ble_eq_true rfl) (e_X11_isWord (d + 1) x4.1 x4.2 _ _ hx5) ?_
      refine Z_if k_X11_testWord rfl 59 rfl (fun hc => ?_) (fun hc => ?_)
      · replace h := of_pos hc h
        refine Z_blk k_X11_testWord 1 (pc' := 60) (lo' := [some (vR 0 21 0)]) (st' := [vI (-1)]) (M1 := x5.2) rfl ?_
        cases h
        exact Z_ret ⟨Or.inl rfl, _, rfl⟩ rfl
      · replace h := of_neg hc h
        refine Z_blk k_X11_testWord 2 (pc' := 60) (lo' := [some (vR 0 21 0)]) (st' := [vI 2]) (M1 := x5.2) rfl ?_
        cases h
        exact Z_ret ⟨Or.inl rfl, _, rfl⟩ rfl
    · replace h := of_neg hc h
      refine Z_blk k_X11_testWord 2 (pc' := 60) (lo' := [some (vR 0 21 0)]) (st' := [vI 1]) (M1 := x3.2) rfl ?_
      cases h
      exact Z_ret ⟨Or.inl rfl, _, rfl⟩ rfl
  · replace h := of_neg hc h
    refine Z_blk k_X11_testWord 1 (pc' := 21) (lo' := [some (vR 0 21 0)]) (st' := [vI 0]) (M1 := x2.2) rfl ?_
    cases h
    exact Z_ret ⟨Or.inl rfl, _, rfl⟩ rfl
def f_X11_isEnd (M : AM) : Option (Int × AM) := (f_X11_spelled 101 110 100 0 0 0 M).bind fun x1 => (f_X11_isWord x1.1 x1.2).bind fun x2 => if x2.1 = 0 ∨ x2.1 = 1 then some (x2.1, x2.2) else none
theorem e_X11_isEnd {Y : List (Nat × Nat)} (d : Nat) (M : AM) (x : Int) (N : AM) (h : f_X11_isEnd M = some (x, N)) : Ev Y (d + 1) m_X11_isEnd 0 [some (vR 0 21 0)] [] M (some (vI x)) N := by
  unfold f_X11_isEnd at h
  refine Z_blk k_X11_isEnd 7 (pc' := 10) (lo' := [some (vR 0 21 0)]) (st' := [vI 0, vI 0, vI 0, vI 100, vI 110, vI 101, vR 0 21 0]) (M1 := M) rfl ?_
  obtain ⟨x1, hx1, h⟩ := Option.bind_eq_some_iff.mp h
  refine Z_callS8 k_X11_isEnd k_X11_spelled rfl rfl (l_11_149) [vI 101, vI 110, vI 100, vI 0, vI 0, vI 0] [vR 0 21 0] rfl rfl (Nat.le_of_ble_eq_true rfl) (Nat.le_of_ble_eq_true rfl) (e_X11_spelled (d + 0) 101 110 100 0 0 0 M _ _ hx1) ?_
  obtain ⟨x2, hx2, h⟩ := Option.bind_eq_some_iff.mp h
  refine Z_callV8 k_X11_isEnd k_X11_isWord rfl rfl (l_11_153) (ci := 11) rfl [vL x1.1] [] rfl rfl (Nat.le_of_ble_eq_true rfl) (Nat.le_of_ble_eq_true rfl) (e_X11_isWord (d + 0) x1.1 x1.2 _ _ hx2) ?_
  obtain ⟨hc3, h⟩ := of_grd h
  cases h
  exact Z_ret ⟨Or.inr ⟨rfl, hc3⟩, _, rfl⟩ rfl
theorem l_11_161 : zhas 6229 (Jvm.Cond.methodLink "BellPullHouseModel" 161 yX11_isPower) = true := by decide +kernel
theorem l_11_164 : zhas 7022 (Jvm.Cond.methodLink "BellPullHouseModel" 164 yX11_isOdds) = true := by decide +kernel
theorem l_11_167 : zhas 7026 (Jvm.Cond.methodLink "BellPullHouseModel" 167 yX11_isRoom) = true := by decide +kernel
theorem l_11_170 : zhas 7046 (Jvm.Cond.methodLink "BellPullHouseModel" 170 yX11_isWire) = true := by decide +kernel
theorem l_11_173 : zhas 7050 (Jvm.Cond.methodLink "BellPullHouseModel" 173 yX11_isFrom) = true := by decide +kernel
theorem l_11_176 : zhas 7054 (Jvm.Cond.methodLink "BellPullHouseModel" 176 yX11_isTo) = true := by decide +kernel
theorem l_11_179 : zhas 7058 (Jvm.Cond.methodLink "BellPullHouseModel" 179 yX11_isSlack) = true := by decide +kernel
theorem l_11_182 : zhas 7062 (Jvm.Cond.methodLink "BellPullHouseModel" 182 yX11_isCouple) = true := by decide +kernel
theorem l_11_185 : zhas 7066 (Jvm.Cond.methodLink "BellPullHouseModel" 185 yX11_isHe) = true := by decide +kernel
theorem l_11_188 : zhas 7070 (Jvm.Cond.methodLink "BellPullHouseModel" 188 yX11_isShe) = true := by decide +kernel
theorem l_11_191 : zhas 7074 (Jvm.Cond.methodLink "BellPullHouseModel" 191 yX11_stepWord) = true := by decide +kernel
theorem l_11_195 : zhas 7078 (Jvm.Cond.methodLink "BellPullHouseModel" 195 yX11_testWord) = true := by decide +kernel
theorem l_11_198 : zhas 7086 (Jvm.Cond.methodLink "BellPullHouseModel" 198 yX11_isEnd) = true := by decide +kernel
def f_X11_isKept (M : AM) : Option (Int × AM) := (f_X11_isPower M).bind fun x1 => if ¬ x1.1 = 0 then some (1, x1.2) else ((f_X11_isOdds x1.2).bind fun x2 => if ¬ x2.1 = 0 then some (1, x2.2) else ((f_X11_isRoom x2.2).bind fun x3 => if ¬ x3.1 = 0 then some (1, x3.2) else ((f_X11_isWire x3.2).bind fun x4 => if ¬ x4.1 = 0 then some (1, x4.2) else ((f_X11_isFrom x4.2).bind fun x5 => if ¬ x5.1 = 0 then some (1, x5.2) else ((f_X11_isTo x5.2).bind fun x6 => if ¬ x6.1 = 0 then some (1, x6.2) else ((f_X11_isSlack x6.2).bind fun x7 => if ¬ x7.1 = 0 then some (1, x7.2) else ((f_X11_isCouple x7.2).bind fun x8 => if ¬ x8.1 = 0 then some (1, x8.2) else ((f_X11_isHe x8.2).bind fun x9 => if ¬ x9.1 = 0 then some (1, x9.2) else ((f_X11_isShe x9.2).bind fun x10 => if x10.1 = 0 then ((f_X11_stepWord x10.2).bind fun x11 => if 0 ≤ x11.1 then some (1, x11.2) else ((f_X11_testWord x11.2).bind fun x12 => if 0 ≤ x12.1 then some (1, x12.2) else ((f_X11_isEnd x12.2).bind fun x13 => if x13.1 = 0 then some (0, x13.2) else some (1, x13.2)))) else some (1, x10.2))))))))))
theorem e_X11_isKept {Y : List (Nat × Nat)} (d : Nat) (M : AM) (x : Int) (N : AM) (h : f_X11_isKept M = some (x, N)) : Ev Y (d + 3) m_X11_isKept 0 [some (vR 0 21 0)] [] M (some (vI x)) N := by
  unfold f_X11_isKept at h
  refine Z_blk k_X11_isKept 1 (pc' := 1) (lo' := [some (vR 0 21 0)]) (st' := [vR 0 21 0]) (M1 := M) rfl ?_
  obtain ⟨x1, hx1, h⟩ := Option.bind_eq_some_iff.mp h
  refine Z_callV8 k_X11_isKept k_X11_isPower rfl rfl (l_11_161) (ci := 11) rfl [] [] rfl rfl (Nat.le_of_ble_eq_true rfl) (Nat.le_of_ble_eq_true rfl) (e_X11_isPower (d + 1) M _ _ hx1) ?_
  refine Z_if k_X11_isKept rfl 70 rfl (fun hc => ?_) (fun hc => ?_)
  · replace h := of_pos hc h
    refine Z_blk k_X11_isKept 1 (pc' := 71) (lo' := [some (vR 0 21 0)]) (st' := [vI 1]) (M1 := x1.2) rfl ?_
    cases h
    exact Z_ret ⟨Or.inr ⟨rfl, Or.inr rfl⟩, _, rfl⟩ rfl
  · replace h := of_neg hc h
    refine Z_blk k_X11_isKept 1 (pc' := 8) (lo' := [some (vR 0 21 0)]) (st' := [vR 0 21 0]) (M1 := x1.2) rfl ?_
    obtain ⟨x2, hx2, h⟩ := Option.bind_eq_some_iff.mp h
    refine Z_callV8 k_X11_isKept k_X11_isOdds rfl rfl (l_11_164) (ci := 11) rfl [] [] rfl rfl (Nat.le_of_ble_eq_true rfl) (Nat.le_of_ble_eq_true rfl) (e_X11_isOdds (d + 1) x1.2 _ _ hx2) ?_
    refine Z_if k_X11_isKept rfl 70 rfl (fun hc => ?_) (fun hc => ?_)
    · replace h := of_pos hc h
      refine Z_blk k_X11_isKept 1 (pc' := 71) (lo' := [some (vR 0 21 0)]) (st' := [vI 1]) (M1 := x2.2) rfl ?_
      cases h
      exact Z_ret ⟨Or.inr ⟨rfl, Or.inr rfl⟩, _, rfl⟩ rfl
    · replace h := of_neg hc h
      refine Z_blk k_X11_isKept 1 (pc' := 15) (lo' := [some (vR 0 21 0)]) (st' := [vR 0 21 0]) (M1 := x2.2) rfl ?_
      obtain ⟨x3, hx3, h⟩ := Option.bind_eq_some_iff.mp h
      refine Z_callV8 k_X11_isKept k_X11_isRoom rfl rfl (l_11_167) (ci := 11) rfl [] [] rfl rfl (Nat.le_of_ble_eq_true rfl) (Nat.le_of_ble_eq_true rfl) (e_X11_isRoom (d + 1) x2.2 _ _ hx3) ?_
      refine Z_if k_X11_isKept rfl 70 rfl (fun hc => ?_) (fun hc => ?_)
      · replace h := of_pos hc h
        refine Z_blk k_X11_isKept 1 (pc' := 71) (lo' := [some (vR 0 21 0)]) (st' := [vI 1]) (M1 := x3.2) rfl ?_
        cases h
        exact Z_ret ⟨Or.inr ⟨rfl, Or.inr rfl⟩, _, rfl⟩ rfl
      · replace h := of_neg hc h
        refine Z_blk k_X11_isKept 1 (pc' := 22) (lo' := [some (vR 0 21 0)]) (st' := [vR 0 21 0]) (M1 := x3.2) rfl ?_
        obtain ⟨x4, hx4, h⟩ := Option.bind_eq_some_iff.mp h
        refine Z_callV8 k_X11_isKept k_X11_isWire rfl rfl (l_11_170) (ci := 11) rfl [] [] rfl rfl (Nat.le_of_ble_eq_true rfl) (Nat.le_of_ble_eq_true rfl) (e_X11_isWire (d + 1) x3.2 _ _ hx4) ?_
        refine Z_if k_X11_isKept rfl 70 rfl (fun hc => ?_) (fun hc => ?_)
        · replace h := of_pos hc h
          refine Z_blk k_X11_isKept 1 (pc' := 71) (lo' := [some (vR 0 21 0)]) (st' := [vI 1]) (M1 := x4.2) rfl ?_
          cases h
          exact Z_ret ⟨Or.inr ⟨rfl, Or.inr rfl⟩, _, rfl⟩ rfl
        · replace h := of_neg hc h
          refine Z_blk k_X11_isKept 1 (pc' := 29) (lo' := [some (vR 0 21 0)]) (st' := [vR 0 21 0]) (M1 := x4.2) rfl ?_
          obtain ⟨x5, hx5, h⟩ := Option.bind_eq_some_iff.mp h
          refine Z_callV8 k_X11_isKept k_X11_isFrom rfl rfl (l_11_173) (ci := 11) rfl [] [] rfl rfl (Nat.le_of_ble_eq_true rfl) (Nat.le_of_ble_eq_true rfl) (e_X11_isFrom (d + 1) x4.2 _ _ hx5) ?_
          refine Z_if k_X11_isKept rfl 70 rfl (fun hc => ?_) (fun hc => ?_)
          · replace h := of_pos hc h
            refine Z_blk k_X11_isKept 1 (pc' := 71) (lo' := [some (vR 0 21 0)]) (st' := [vI 1]) (M1 := x5.2) rfl ?_
            cases h
            exact Z_ret ⟨Or.inr ⟨rfl, Or.inr rfl⟩, _, rfl⟩ rfl
          · replace h := of_neg hc h
            refine Z_blk k_X11_isKept 1 (pc' := 36) (lo' := [some (vR 0 21 0)]) (st' := [vR 0 21 0]) (M1 := x5.2) rfl ?_
            obtain ⟨x6, hx6, h⟩ := Option.bind_eq_some_iff.mp h
            refine Z_callV8 k_X11_isKept k_X11_isTo rfl rfl (l_11_176) (ci := 11) rfl [] [] rfl rfl (Nat.le_of_ble_eq_true rfl) (Nat.le_of_ble_eq_true rfl) (e_X11_isTo (d + 1) x5.2 _ _ hx6) ?_
            refine Z_if k_X11_isKept rfl 70 rfl (fun hc => ?_) (fun hc => ?_)
            · replace h := of_pos hc h
              refine Z_blk k_X11_isKept 1 (pc' := 71) (lo' := [some (vR 0 21 0)]) (st' := [vI 1]) (M1 := x6.2) rfl ?_
              cases h
              exact Z_ret ⟨Or.inr ⟨rfl, Or.inr rfl⟩, _, rfl⟩ rfl
            · replace h := of_neg hc h
              refine Z_blk k_X11_isKept 1 (pc' := 43) (lo' := [some (vR 0 21 0)]) (st' := [vR 0 21 0]) (M1 := x6.2) rfl ?_
              obtain ⟨x7, hx7, h⟩ := Option.bind_eq_some_iff.mp h
              refine Z_callV8 k_X11_isKept k_X11_isSlack rfl rfl (l_11_179) (ci := 11) rfl [] [] rfl rfl (Nat.le_of_ble_eq_true rfl) (Nat.le_of_ble_eq_true rfl) (e_X11_isSlack (d + 1) x6.2 _ _ hx7) ?_
              refine Z_if k_X11_isKept rfl 70 rfl (fun hc => ?_) (fun hc => ?_)
              · replace h := of_pos hc h
                refine Z_blk k_X11_isKept 1 (pc' := 71) (lo' := [some (vR 0 21 0)]) (st' := [vI 1]) (M1 := x7.2) rfl ?_
                cases h
                exact Z_ret ⟨Or.inr ⟨rfl, Or.inr rfl⟩, _, rfl⟩ rfl
              · replace h := of_neg hc h
                refine Z_blk k_X11_isKept 1 (pc' := 50) (lo' := [some (vR 0 21 0)]) (st' := [vR 0 21 0]) (M1 := x7.2) rfl ?_
                obtain ⟨x8, hx8, h⟩ := Option.bind_eq_some_iff.mp h
                refine Z_callV8 k_X11_isKept k_X11_isCouple rfl rfl (l_11_182) (ci := 11) rfl [] [] rfl rfl (Nat.le_of_ble_eq_true rfl) (Nat.le_of_ble_eq_true rfl) (e_X11_isCouple (d + 1) x7.2 _ _ hx8) ?_
                refine Z_if k_X11_isKept rfl 70 rfl (fun hc => ?_) (fun hc => ?_)
                · replace h := of_pos hc h
                  refine Z_blk k_X11_isKept 1 (pc' := 71) (lo' := [some (vR 0 21 0)]) (st' := [vI 1]) (M1 := x8.2) rfl ?_
                  cases h
                  exact Z_ret ⟨Or.inr ⟨rfl, Or.inr rfl⟩, _, rfl⟩ rfl
                · replace h := of_neg hc h
                  refine Z_blk k_X11_isKept 1 (pc' := 57) (lo' := [some (vR 0 21 0)]) (st' := [vR 0 21 0]) (M1 := x8.2) rfl ?_
                  obtain ⟨x9, hx9, h⟩ := Option.bind_eq_some_iff.mp h
                  refine Z_callV8 k_X11_isKept k_X11_isHe rfl rfl (l_11_185) (ci := 11) rfl [] [] rfl rfl (Nat.le_of_ble_eq_true rfl) (Nat.le_of_ble_eq_true rfl) (e_X11_isHe (d + 1) x8.2 _ _ hx9) ?_
                  refine Z_if k_X11_isKept rfl 70 rfl (fun hc => ?_) (fun hc => ?_)
                  · replace h := of_pos hc h
                    refine Z_blk k_X11_isKept 1 (pc' := 71) (lo' := [some (vR 0 21 0)]) (st' := [vI 1]) (M1 := x9.2) rfl ?_
                    cases h
                    exact Z_ret ⟨Or.inr ⟨rfl, Or.inr rfl⟩, _, rfl⟩ rfl
                  · replace h := of_neg hc h
                    refine Z_blk k_X11_isKept 1 (pc' := 64) (lo' := [some (vR 0 21 0)]) (st' := [vR 0 21 0]) (M1 := x9.2) rfl ?_
                    obtain ⟨x10, hx10, h⟩ := Option.bind_eq_some_iff.mp h
                    refine Z_callV8 k_X11_isKept k_X11_isShe rfl rfl (l_11_188) (ci := 11) rfl [] [] rfl rfl (Nat.le_of_ble_eq_true rfl) (Nat.le_of_ble_eq_true rfl) (e_X11_isShe (d + 1) x9.2 _ _ hx10) ?_
                    refine Z_if k_X11_isKept rfl 72 rfl (fun hc => ?_) (fun hc => ?_)
                    · replace h := of_pos hc h
                      refine Z_blk k_X11_isKept 1 (pc' := 73) (lo' := [some (vR 0 21 0)]) (st' := [vR 0 21 0]) (M1 := x10.2) rfl ?_
                      obtain ⟨x11, hx11, h⟩ := Option.bind_eq_some_iff.mp h
                      refine Z_callV8 k_X11_isKept k_X11_stepWord rfl rfl (l_11_191) (ci := 11) rfl [] [] rfl rfl (Nat.le_of_ble_eq_true rfl) (Nat.le_of_ble_eq_true rfl) (e_X11_stepWord (d + 1) x10.2 _ _ hx11) ?_
                      refine Z_if k_X11_isKept rfl 93 rfl (fun hc => ?_) (fun hc => ?_)
                      · replace h := of_pos hc h
                        refine Z_blk k_X11_isKept 2 (pc' := 98) (lo' := [some (vR 0 21 0)]) (st' := [vI 1]) (M1 := x11.2) rfl ?_
                        cases h
                        exact Z_ret ⟨Or.inr ⟨rfl, Or.inr rfl⟩, _, rfl⟩ rfl
                      · replace h := of_neg hc h
                        refine Z_blk k_X11_isKept 1 (pc' := 80) (lo' := [some (vR 0 21 0)]) (st' := [vR 0 21 0]) (M1 := x11.2) rfl ?_
                        obtain ⟨x12, hx12, h⟩ := Option.bind_eq_some_iff.mp h
                        refine Z_callV8 k_X11_isKept k_X11_testWord rfl rfl (l_11_195) (ci := 11) rfl [] [] rfl rfl (Nat.le_of_ble_eq_true rfl) (Nat.le_of_ble_eq_true rfl) (e_X11_testWord (d + 0) x11.2 _ _ hx12) ?_
                        refine Z_if k_X11_isKept rfl 93 rfl (fun hc => ?_) (fun hc => ?_)
                        · replace h := of_pos hc h
                          refine Z_blk k_X11_isKept 2 (pc' := 98) (lo' := [some (vR 0 21 0)]) (st' := [vI 1]) (M1 := x12.2) rfl ?_
                          cases h
                          exact Z_ret ⟨Or.inr ⟨rfl, Or.inr rfl⟩, _, rfl⟩ rfl
                        · replace h := of_neg hc h
                          refine Z_blk k_X11_isKept 1 (pc' := 87) (lo' := [some (vR 0 21 0)]) (st' := [vR 0 21 0]) (M1 := x12.2) rfl ?_
                          obtain ⟨x13, hx13, h⟩ := Option.bind_eq_some_iff.mp h
                          refine Z_callV8 k_X11_isKept k_X11_isEnd rfl rfl (l_11_198) (ci := 11) rfl [] [] rfl rfl (Nat.le_of_ble_eq_true rfl) (Nat.le_of_ble_eq_true rfl) (e_X11_isEnd (d + 1) x12.2 _ _ hx13) ?_
                          refine Z_if k_X11_isKept rfl 97 rfl (fun hc => ?_) (fun hc => ?_)
                          · replace h := of_pos hc h
                            refine Z_blk k_X11_isKept 1 (pc' := 98) (lo' := [some (vR 0 21 0)]) (st' := [vI 0]) (M1 := x13.2) rfl ?_
                            cases h
                            exact Z_ret ⟨Or.inr ⟨rfl, Or.inl rfl⟩, _, rfl⟩ rfl
                          · replace h := of_neg hc h
                            refine Z_blk k_X11_isKept 2 (pc' := 98) (lo' := [some (vR 0 21 0)]) (st' := [vI 1]) (M1 := x13.2) rfl ?_
                            cases h
                            exact Z_ret ⟨Or.inr ⟨rfl, Or.inr rfl⟩, _, rfl⟩ rfl
                    · replace h := of_neg hc h
                      refine Z_blk k_X11_isKept 1 (pc' := 71) (lo' := [some (vR 0 21 0)]) (st' := [vI 1]) (M1 := x10.2) rfl ?_
                      cases h
                      exact Z_ret ⟨Or.inr ⟨rfl, Or.inr rfl⟩, _, rfl⟩ rfl
theorem l_11_201 : zhas 7042 (Jvm.Cond.methodLink "BellPullHouseModel" 201 yX11_isKept) = true := by decide +kernel
def f_X11_isName (M : AM) : Option (Int × AM) := if ¬ M 0 14 = 1 then some (0, M) else (if 8 < M 0 18 then some (0, M) else ((f_X11_isKept M).bind fun x1 => if ¬ x1.1 = 0 then some (0, x1.2) else some (1, x1.2)))
theorem e_X11_isName {Y : List (Nat × Nat)} (d : Nat) (M : AM) (x : Int) (N : AM) (h : f_X11_isName M = some (x, N)) : Ev Y (d + 4) m_X11_isName 0 [some (vR 0 21 0)] [] M (some (vI x)) N := by
  unfold f_X11_isName at h
  refine Z_blk k_X11_isName 3 (pc' := 5) (lo' := [some (vR 0 21 0)]) (st' := [vI 1, vI (M 0 14)]) (M1 := M) rfl ?_
  refine Z_icmp k_X11_isName rfl 28 rfl (fun hc => ?_) (fun hc => ?_)
  · replace h := of_pos hc h
    refine Z_blk k_X11_isName 1 (pc' := 29) (lo' := [some (vR 0 21 0)]) (st' := [vI 0]) (M1 := M) rfl ?_
    cases h
    exact Z_ret ⟨Or.inr ⟨rfl, Or.inl rfl⟩, _, rfl⟩ rfl
  · replace h := of_neg hc h
    refine Z_blk k_X11_isName 3 (pc' := 14) (lo' := [some (vR 0 21 0)]) (st' := [vI 8, vI (M 0 18)]) (M1 := M) rfl ?_
    refine Z_icmp k_X11_isName rfl 28 rfl (fun hc => ?_) (fun hc => ?_)
    · replace h := of_pos hc h
      refine Z_blk k_X11_isName 1 (pc' := 29) (lo' := [some (vR 0 21 0)]) (st' := [vI 0]) (M1 := M) rfl ?_
      cases h
      exact Z_ret ⟨Or.inr ⟨rfl, Or.inl rfl⟩, _, rfl⟩ rfl
    · replace h := of_neg hc h
      refine Z_blk k_X11_isName 1 (pc' := 18) (lo' := [some (vR 0 21 0)]) (st' := [vR 0 21 0]) (M1 := M) rfl ?_
      obtain ⟨x1, hx1, h⟩ := Option.bind_eq_some_iff.mp h
      refine Z_callV8 k_X11_isName k_X11_isKept rfl rfl (l_11_201) (ci := 11) rfl [] [] rfl rfl (Nat.le_of_ble_eq_true rfl) (Nat.le_of_ble_eq_true rfl) (e_X11_isKept (d + 0) M _ _ hx1) ?_
      refine Z_if k_X11_isName rfl 28 rfl (fun hc => ?_) (fun hc => ?_)
      · replace h := of_pos hc h
        refine Z_blk k_X11_isName 1 (pc' := 29) (lo' := [some (vR 0 21 0)]) (st' := [vI 0]) (M1 := x1.2) rfl ?_
        cases h
        exact Z_ret ⟨Or.inr ⟨rfl, Or.inl rfl⟩, _, rfl⟩ rfl
      · replace h := of_neg hc h
        refine Z_blk k_X11_isName 2 (pc' := 29) (lo' := [some (vR 0 21 0)]) (st' := [vI 1]) (M1 := x1.2) rfl ?_
        cases h
        exact Z_ret ⟨Or.inr ⟨rfl, Or.inr rfl⟩, _, rfl⟩ rfl
def f_X11_fail (a1 : Int) (a2 : Int) (M : AM) : Option (AM) := if M 0 12 ≤ 0 then (zlet (am_upd M 0 12 a1) fun M1 => zlet (am_upd M1 0 13 a2) fun M2 => some M2) else some M
theorem e_X11_fail {Y : List (Nat × Nat)} (d : Nat) (a1 : Int) (a2 : Int) (M : AM) (N : AM) (h : f_X11_fail a1 a2 M = some N) : Ev Y (d + 0) m_X11_fail 0 [some (vR 0 21 0), some (vI a1), some (vI a2)] [] M none N := by
  unfold f_X11_fail at h
  refine Z_blk k_X11_fail 2 (pc' := 4) (lo' := [some (vR 0 21 0), some (vI a1), some (vI a2)]) (st' := [vI (M 0 12)]) (M1 := M) rfl ?_
  refine Z_if k_X11_fail rfl 8 rfl (fun hc => ?_) (fun hc => ?_)
  · replace h := of_pos hc h
    obtain ⟨M1, eM1, h⟩ := of_zlet h
    refine Z_blk k_X11_fail 3 (pc' := 13) (lo' := [some (vR 0 21 0), some (vI a1), some (vI a2)]) (st' := []) (M1 := M1) (by rw [eM1]; rfl) ?_
    obtain ⟨M2, eM2, h⟩ := of_zlet h
    refine Z_blk k_X11_fail 3 (pc' := 18) (lo' := [some (vR 0 21 0), some (vI a1), some (vI a2)]) (st' := []) (M1 := M2) (by rw [eM2]; rfl) ?_
    cases h
    exact Z_ret ⟨rfl, _, rfl⟩ rfl
  · replace h := of_neg hc h
    cases h
    exact Z_ret ⟨rfl, _, rfl⟩ rfl
theorem l_11_210 : zhas 7007 (Jvm.Cond.methodLink "BellPullHouseModel" 210 yX11_fail) = true := by decide +kernel
def f_X11_amiss_14 (s1 : Int) (M : AM) : Option (AM) := (f_X11_fail s1 (M 0 15) M).bind fun x1 => some x1
theorem e_X11_amiss_14 {Y : List (Nat × Nat)} (d : Nat) (s1 : Int) (M : AM) (N : AM) (h : f_X11_amiss_14 s1 M = some N) : Ev Y (d + 1) m_X11_amiss 14 [some (vR 0 21 0)] [vI s1, vR 0 21 0] M none N := by
  unfold f_X11_amiss_14 at h
  refine Z_blk k_X11_amiss 2 (pc' := 18) (lo' := [some (vR 0 21 0)]) (st' := [vI (M 0 15), vI s1, vR 0 21 0]) (M1 := M) rfl ?_
  obtain ⟨x1, hx1, h⟩ := Option.bind_eq_some_iff.mp h
  refine Z_callV8 k_X11_amiss k_X11_fail rfl rfl (l_11_210) (ci := 11) rfl [vI s1, vI (M 0 15)] [] rfl rfl (Nat.le_of_ble_eq_true rfl) (Nat.le_of_ble_eq_true rfl) (e_X11_fail (d + 0) s1 (M 0 15) M _ hx1) ?_
  cases h
  exact Z_ret ⟨rfl, _, rfl⟩ rfl
def f_X11_amiss (M : AM) : Option (AM) := if ¬ M 0 14 = 4 then f_X11_amiss_14 2 M else f_X11_amiss_14 1 M
theorem e_X11_amiss {Y : List (Nat × Nat)} (d : Nat) (M : AM) (N : AM) (h : f_X11_amiss M = some N) : Ev Y (d + 1) m_X11_amiss 0 [some (vR 0 21 0)] [] M none N := by
  unfold f_X11_amiss at h
  refine Z_blk k_X11_amiss 4 (pc' := 6) (lo' := [some (vR 0 21 0)]) (st' := [vI 4, vI (M 0 14), vR 0 21 0]) (M1 := M) rfl ?_
  refine Z_icmp k_X11_amiss rfl 13 rfl (fun hc => ?_) (fun hc => ?_)
  · replace h := of_pos hc h
    refine Z_blk k_X11_amiss 1 (pc' := 14) (lo' := [some (vR 0 21 0)]) (st' := [vI 2, vR 0 21 0]) (M1 := M) rfl ?_
    refine Z_mask [true] (lo0 := [some (vR 0 21 0)]) rfl ?_
    exact e_X11_amiss_14 d 2 M _ h
  · replace h := of_neg hc h
    refine Z_blk k_X11_amiss 2 (pc' := 14) (lo' := [some (vR 0 21 0)]) (st' := [vI 1, vR 0 21 0]) (M1 := M) rfl ?_
    refine Z_mask [true] (lo0 := [some (vR 0 21 0)]) rfl ?_
    exact e_X11_amiss_14 d 1 M _ h
theorem l_11_214 : zhas 6205 (Jvm.Cond.methodLink "BellPullHouseModel" 214 yX11_advance) = true := by decide +kernel
theorem l_11_217 : zhas 7015 (Jvm.Cond.methodLink "BellPullHouseModel" 217 yX11_amiss) = true := by decide +kernel
def f_X11_must (a1 : Int) (M : AM) : Option (AM) := if M 0 12 ≤ 0 then (if a1 = 0 then ((f_X11_amiss M).bind fun x1 => some x1) else ((f_X11_advance M).bind fun x2 => some x2)) else some M
theorem e_X11_must {Y : List (Nat × Nat)} (d : Nat) (a1 : Int) (M : AM) (N : AM) (h : f_X11_must a1 M = some N) : Ev Y (d + 2) m_X11_must 0 [some (vR 0 21 0), some (vI a1)] [] M none N := by
  unfold f_X11_must at h
  refine Z_blk k_X11_must 2 (pc' := 4) (lo' := [some (vR 0 21 0), some (vI a1)]) (st' := [vI (M 0 12)]) (M1 := M) rfl ?_
  refine Z_if k_X11_must rfl 8 rfl (fun hc => ?_) (fun hc => ?_)
  · replace h := of_pos hc h
    refine Z_blk k_X11_must 1 (pc' := 9) (lo' := [some (vR 0 21 0), some (vI a1)]) (st' := [vI a1]) (M1 := M) rfl ?_
    refine Z_if k_X11_must rfl 19 rfl (fun hc => ?_) (fun hc => ?_)
    · replace h := of_pos hc h
      refine Z_blk k_X11_must 1 (pc' := 20) (lo' := [some (vR 0 21 0), some (vI a1)]) (st' := [vR 0 21 0]) (M1 := M) rfl ?_
      obtain ⟨x1, hx1, h⟩ := Option.bind_eq_some_iff.mp h
      refine Z_callV8 k_X11_must k_X11_amiss rfl rfl (l_11_217) (ci := 11) rfl [] [] rfl rfl (Nat.le_of_ble_eq_true rfl) (Nat.le_of_ble_eq_true rfl) (e_X11_amiss (d + 0) M _ hx1) ?_
      cases h
      exact Z_ret ⟨rfl, _, rfl⟩ rfl
    · replace h := of_neg hc h
      refine Z_blk k_X11_must 1 (pc' := 13) (lo' := [some (vR 0 21 0), some (vI a1)]) (st' := [vR 0 21 0]) (M1 := M) rfl ?_
      obtain ⟨x2, hx2, h⟩ := Option.bind_eq_some_iff.mp h
      refine Z_callV8 k_X11_must k_X11_advance rfl rfl (l_11_214) (ci := 11) rfl [] [] rfl rfl (Nat.le_of_ble_eq_true rfl) (Nat.le_of_ble_eq_true rfl) (e_X11_advance (d + 0) M _ hx2) ?_
      refine Z_blk k_X11_must 1 (pc' := 23) (lo' := [some (vR 0 21 0), some (vI a1)]) (st' := []) (M1 := x2) rfl ?_
      cases h
      exact Z_ret ⟨rfl, _, rfl⟩ rfl
  · replace h := of_neg hc h
    cases h
    exact Z_ret ⟨rfl, _, rfl⟩ rfl
def f_X11_count_50 (M : AM) : Option (Int × AM) := if M 0 12 ≤ 0 then ((f_X11_advance M).bind fun x1 => some (M 0 17, x1)) else some (0, M)
theorem e_X11_count_50 {Y : List (Nat × Nat)} (d : Nat) (M : AM) (x : Int) (N : AM) (h : f_X11_count_50 M = some (x, N)) : Ev Y (d + 2) m_X11_count 50 [some (vR 0 21 0), none, none, none] [] M (some (vI x)) N := by
  unfold f_X11_count_50 at h
  refine Z_blk k_X11_count 2 (pc' := 54) (lo' := [some (vR 0 21 0), none, none, none]) (st' := [vI (M 0 12)]) (M1 := M) rfl ?_
  refine Z_if k_X11_count rfl 59 rfl (fun hc => ?_) (fun hc => ?_)
  · replace h := of_pos hc h
    refine Z_blk k_X11_count 4 (pc' := 65) (lo' := [some (vR 0 21 0), none, none, some (vI (M 0 17))]) (st' := [vR 0 21 0]) (M1 := M) rfl ?_
    obtain ⟨x1, hx1, h⟩ := Option.bind_eq_some_iff.mp h
    refine Z_callV8 k_X11_count k_X11_advance rfl rfl (l_11_214) (ci := 11) rfl [] [] rfl rfl (Nat.le_of_ble_eq_true rfl) (Nat.le_of_ble_eq_true rfl) (e_X11_advance (d + 0) M _ hx1) ?_
    refine Z_blk k_X11_count 1 (pc' := 69) (lo' := [some (vR 0 21 0), none, none, some (vI (M 0 17))]) (st' := [vI (M 0 17)]) (M1 := x1) rfl ?_
    cases h
    exact Z_ret ⟨Or.inl rfl, _, rfl⟩ rfl
  · replace h := of_neg hc h
    refine Z_blk k_X11_count 1 (pc' := 58) (lo' := [some (vR 0 21 0), none, none, none]) (st' := [vI 0]) (M1 := M) rfl ?_
    cases h
    exact Z_ret ⟨Or.inl rfl, _, rfl⟩ rfl
def f_X11_count_19 (a1 : Int) (a2 : Int) (M : AM) : Option (Int × AM) := if ¬ M 0 12 = 0 then f_X11_count_50 M else ((f_X11_isIn (M 0 17) a1 a2 M).bind fun x1 => if ¬ x1.1 = 0 then f_X11_count_50 x1.2 else ((f_X11_fail 4 (x1.2 0 15) x1.2).bind fun x2 => f_X11_count_50 x2))
theorem e_X11_count_19 {Y : List (Nat × Nat)} (d : Nat) (a1 : Int) (a2 : Int) (M : AM) (x : Int) (N : AM) (h : f_X11_count_19 a1 a2 M = some (x, N)) : Ev Y (d + 2) m_X11_count 19 [some (vR 0 21 0), some (vI a1), some (vI a2), none] [] M (some (vI x)) N := by
  unfold f_X11_count_19 at h
  refine Z_blk k_X11_count 2 (pc' := 23) (lo' := [some (vR 0 21 0), some (vI a1), some (vI a2), none]) (st' := [vI (M 0 12)]) (M1 := M) rfl ?_
  refine Z_if k_X11_count rfl 50 rfl (fun hc => ?_) (fun hc => ?_)
  · replace h := of_pos hc h
    refine Z_mask [true, false, false, false] (lo0 := [some (vR 0 21 0), none, none, none]) rfl ?_
    exact e_X11_count_50 d M _ _ h
  · replace h := of_neg hc h
    refine Z_blk k_X11_count 7 (pc' := 35) (lo' := [some (vR 0 21 0), some (vI a1), some (vI a2), none]) (st' := [vL a2, vL a1, vL (M 0 17)]) (M1 := M) rfl ?_
    obtain ⟨x1, hx1, h⟩ := Option.bind_eq_some_iff.mp h
    refine Z_callS8 k_X11_count k_X11_isIn rfl rfl (l_11_104) [vL (M 0 17), vL a1, vL a2] [] rfl rfl (Nat.le_of_ble_eq_true rfl) (Nat.le_of_ble_eq_true rfl) (e_X11_isIn (d + 1) (M 0 17) a1 a2 M _ _ hx1) ?_
    refine Z_if k_X11_count rfl 50 rfl (fun hc => ?_) (fun hc => ?_)
    · replace h := of_pos hc h
      refine Z_mask [true, false, false, false] (lo0 := [some (vR 0 21 0), none, none, none]) rfl ?_
      exact e_X11_count_50 d x1.2 _ _ h
    · replace h := of_neg hc h
      refine Z_blk k_X11_count 4 (pc' := 47) (lo' := [some (vR 0 21 0), some (vI a1), some (vI a2), none]) (st' := [vI (x1.2 0 15), vI 4, vR 0 21 0]) (M1 := x1.2) rfl ?_
      obtain ⟨x2, hx2, h⟩ := Option.bind_eq_some_iff.mp h
      refine Z_callV8 k_X11_count k_X11_fail rfl rfl (l_11_210) (ci := 11) rfl [vI 4, vI (x1.2 0 15)] [] rfl rfl (Nat.le_of_ble_eq_true rfl) (Nat.le_of_ble_eq_true rfl) (e_X11_fail (d + 1) 4 (x1.2 0 15) x1.2 _ hx2) ?_
      refine Z_mask [true, false, false, false] (lo0 := [some (vR 0 21 0), none, none, none]) rfl ?_
      exact e_X11_count_50 d x2 _ _ h
def f_X11_count (a1 : Int) (a2 : Int) (M : AM) : Option (Int × AM) := if ¬ M 0 12 = 0 then f_X11_count_19 a1 a2 M else (if M 0 14 = 2 then f_X11_count_19 a1 a2 M else ((f_X11_amiss M).bind fun x1 => f_X11_count_19 a1 a2 x1))
theorem e_X11_count {Y : List (Nat × Nat)} (d : Nat) (a1 : Int) (a2 : Int) (M : AM) (x : Int) (N : AM) (h : f_X11_count a1 a2 M = some (x, N)) : Ev Y (d + 2) m_X11_count 0 [some (vR 0 21 0), some (vI a1), some (vI a2), none] [] M (some (vI x)) N := by
  unfold f_X11_count at h
  refine Z_blk k_X11_count 2 (pc' := 4) (lo' := [some (vR 0 21 0), some (vI a1), some (vI a2), none]) (st' := [vI (M 0 12)]) (M1 := M) rfl ?_
  refine Z_if k_X11_count rfl 19 rfl (fun hc => ?_) (fun hc => ?_)
  · replace h := of_pos hc h
    refine Z_mask [true, true, true, false] (lo0 := [some (vR 0 21 0), some (vI a1), some (vI a2), none]) rfl ?_
    exact e_X11_count_19 d a1 a2 M _ _ h
  · replace h := of_neg hc h
    refine Z_blk k_X11_count 3 (pc' := 12) (lo' := [some (vR 0 21 0), some (vI a1), some (vI a2), none]) (st' := [vI 2, vI (M 0 14)]) (M1 := M) rfl ?_
    refine Z_icmp k_X11_count rfl 19 rfl (fun hc => ?_) (fun hc => ?_)
    · replace h := of_pos hc h
      refine Z_mask [true, true, true, false] (lo0 := [some (vR 0 21 0), some (vI a1), some (vI a2), none]) rfl ?_
      exact e_X11_count_19 d a1 a2 M _ _ h
    · replace h := of_neg hc h
      refine Z_blk k_X11_count 1 (pc' := 16) (lo' := [some (vR 0 21 0), some (vI a1), some (vI a2), none]) (st' := [vR 0 21 0]) (M1 := M) rfl ?_
      obtain ⟨x1, hx1, h⟩ := Option.bind_eq_some_iff.mp h
      refine Z_callV8 k_X11_count k_X11_amiss rfl rfl (l_11_217) (ci := 11) rfl [] [] rfl rfl (Nat.le_of_ble_eq_true rfl) (Nat.le_of_ble_eq_true rfl) (e_X11_amiss (d + 0) M _ hx1) ?_
      refine Z_mask [true, true, true, false] (lo0 := [some (vR 0 21 0), some (vI a1), some (vI a2), none]) rfl ?_
      exact e_X11_count_19 d a1 a2 x1 _ _ h
theorem l_11_220 : zhas 7101 (Jvm.Cond.methodLink "BellPullHouseModel" 220 yX11_must) = true := by decide +kernel
theorem l_11_224 : zhas 7011 (Jvm.Cond.methodLink "BellPullHouseModel" 224 yX11_count) = true := by decide +kernel
def f_X11_behindWord (a1 : Int) (a2 : Int) (a3 : Int) (M : AM) : Option (Int × AM) := (f_X11_must a1 M).bind fun x1 => (f_X11_count a2 a3 x1).bind fun x2 => some (x2.1, x2.2)
theorem e_X11_behindWord {Y : List (Nat × Nat)} (d : Nat) (a1 : Int) (a2 : Int) (a3 : Int) (M : AM) (x : Int) (N : AM) (h : f_X11_behindWord a1 a2 a3 M = some (x, N)) : Ev Y (d + 3) m_X11_behindWord 0 [some (vR 0 21 0), some (vI a1), some (vI a2), some (vI a3)] [] M (some (vI x)) N := by
  unfold f_X11_behindWord at h
  refine Z_blk k_X11_behindWord 2 (pc' := 2) (lo' := [some (vR 0 21 0), some (vI a1), some (vI a2), some (vI a3)]) (st' := [vI a1, vR 0 21 0]) (M1 := M) rfl ?_
  obtain ⟨x1, hx1, h⟩ := Option.bind_eq_some_iff.mp h
  refine Z_callV8 k_X11_behindWord k_X11_must rfl rfl (l_11_220) (ci := 11) rfl [vI a1] [] rfl rfl (Nat.le_of_ble_eq_true rfl) (Nat.le_of_ble_eq_true rfl) (e_X11_must (d + 0) a1 M _ hx1) ?_
  refine Z_blk k_X11_behindWord 3 (pc' := 8) (lo' := [some (vR 0 21 0), some (vI a1), some (vI a2), some (vI a3)]) (st' := [vI a3, vI a2, vR 0 21 0]) (M1 := x1) rfl ?_
  obtain ⟨x2, hx2, h⟩ := Option.bind_eq_some_iff.mp h
  refine Z_callV8 k_X11_behindWord k_X11_count rfl rfl (l_11_224) (ci := 11) rfl [vI a2, vI a3] [] rfl rfl (Nat.le_of_ble_eq_true rfl) (Nat.le_of_ble_eq_true rfl) (e_X11_count (d + 0) a2 a3 x1 _ _ hx2) ?_
  cases h
  exact Z_ret ⟨Or.inl rfl, _, rfl⟩ rfl
def f_X11_perhaps (a1 : Int) (M : AM) : Option (Int × AM) := if 0 < M 0 12 then some (0, M) else (if ¬ a1 = 0 then ((f_X11_advance M).bind fun x1 => some (1, x1)) else some (0, M))
theorem e_X11_perhaps {Y : List (Nat × Nat)} (d : Nat) (a1 : Int) (M : AM) (x : Int) (N : AM) (h : f_X11_perhaps a1 M = some (x, N)) : Ev Y (d + 2) m_X11_perhaps 0 [some (vR 0 21 0), some (vI a1)] [] M (some (vI x)) N := by
  unfold f_X11_perhaps at h
  refine Z_blk k_X11_perhaps 2 (pc' := 4) (lo' := [some (vR 0 21 0), some (vI a1)]) (st' := [vI (M 0 12)]) (M1 := M) rfl ?_
  refine Z_if k_X11_perhaps rfl 11 rfl (fun hc => ?_) (fun hc => ?_)
  · replace h := of_pos hc h
    refine Z_blk k_X11_perhaps 1 (pc' := 12) (lo' := [some (vR 0 21 0), some (vI a1)]) (st' := [vI 0]) (M1 := M) rfl ?_
    cases h
    exact Z_ret ⟨Or.inr ⟨rfl, Or.inl rfl⟩, _, rfl⟩ rfl
  · replace h := of_neg hc h
    refine Z_blk k_X11_perhaps 1 (pc' := 8) (lo' := [some (vR 0 21 0), some (vI a1)]) (st' := [vI a1]) (M1 := M) rfl ?_
    refine Z_if k_X11_perhaps rfl 13 rfl (fun hc => ?_) (fun hc => ?_)
    · replace h := of_pos hc h
      refine Z_blk k_X11_perhaps 1 (pc' := 14) (lo' := [some (vR 0 21 0), some (vI a1)]) (st' := [vR 0 21 0]) (M1 := M) rfl ?_
      obtain ⟨x1, hx1, h⟩ := Option.bind_eq_some_iff.mp h
      refine Z_callV8 k_X11_perhaps k_X11_advance rfl rfl (l_11_214) (ci := 11) rfl [] [] rfl rfl (Nat.le_of_ble_eq_true rfl) (Nat.le_of_ble_eq_true rfl) (e_X11_advance (d + 0) M _ hx1) ?_
      refine Z_blk k_X11_perhaps 1 (pc' := 18) (lo' := [some (vR 0 21 0), some (vI a1)]) (st' := [vI 1]) (M1 := x1) rfl ?_
      cases h
      exact Z_ret ⟨Or.inr ⟨rfl, Or.inr rfl⟩, _, rfl⟩ rfl
    · replace h := of_neg hc h
      refine Z_blk k_X11_perhaps 1 (pc' := 12) (lo' := [some (vR 0 21 0), some (vI a1)]) (st' := [vI 0]) (M1 := M) rfl ?_
      cases h
      exact Z_ret ⟨Or.inr ⟨rfl, Or.inl rfl⟩, _, rfl⟩ rfl
def f_X11_lay_2 : Nat → Int → Int → AM → Option (AM)
  | 0, _, _, _ => none
  | n + 1, a1, a2, M => if a2 < 0 then some M else (if 0 ≤ M 0 8 ∧ M 0 8 < 900 then (zlet (am_upd M 4 (Int.toNat (M 0 8)) (o_i2b (o_i2b (o_shr a1 (o_mul 8 a2))))) fun M2 => zlet (am_upd M2 0 8 (o_add (M2 0 8) 1)) fun M3 => f_X11_lay_2 n a1 (o_add a2 (-1)) M3) else none)
theorem e_X11_lay_2 {Y : List (Nat × Nat)} (d : Nat) : ∀ (n : Nat) (a1 : Int) (a2 : Int) (M : AM) (N : AM), f_X11_lay_2 n a1 a2 M = some N → Ev Y (d + 0) m_X11_lay 2 [some (vR 0 21 0), some (vI a1), some (vI a2)] [] M none N := by
  intro n
  induction n with
  | zero => intro a1 a2 M N h; cases h
  | succ n ih =>
    intro a1 a2 M N h
    simp only [f_X11_lay_2] at h
    refine Z_blk k_X11_lay 1 (pc' := 3) (lo' := [some (vR 0 21 0), some (vI a1), some (vI a2)]) (st' := [vI a2]) (M1 := M) rfl ?_
    refine Z_if k_X11_lay rfl 38 rfl (fun hc => ?_) (fun hc => ?_)
    · replace h := of_pos hc h
      cases h
      exact Z_ret ⟨rfl, _, rfl⟩ rfl
    · replace h := of_neg hc h
      refine Z_blk k_X11_lay 10 (pc' := 21) (lo' := [some (vR 0 21 0), some (vI a1), some (vI a2)]) (st' := [vI (o_i2b (o_shr a1 (o_mul 8 a2))), vI (M 0 8), vR 4 2 900]) (M1 := M) rfl ?_
      obtain ⟨hc1, h⟩ := of_grd h
      obtain ⟨M2, eM2, h⟩ := of_zlet h
      refine Z_one k_X11_lay rfl (pc' := 22) (lo' := [some (vR 0 21 0), some (vI a1), some (vI a2)]) (st' := []) (M1 := M2) (by rw [eM2]; exact if_pos hc1) ?_
      obtain ⟨M3, eM3, h⟩ := of_zlet h
      refine Z_blk k_X11_lay 6 (pc' := 32) (lo' := [some (vR 0 21 0), some (vI a1), some (vI a2)]) (st' := []) (M1 := M3) (by rw [eM3]; rfl) ?_
      refine Z_blk k_X11_lay 2 (pc' := 2) (lo' := [some (vR 0 21 0), some (vI a1), some (vI (o_add a2 (-1)))]) (st' := []) (M1 := M3) rfl ?_
      refine Z_mask [true, true, true] (lo0 := [some (vR 0 21 0), some (vI a1), some (vI (o_add a2 (-1)))]) rfl ?_
      exact ih a1 (o_add a2 (-1)) M3 _ h
def f_X11_lay (a1 : Int) (M : AM) : Option (AM) := f_X11_lay_2 zB a1 3 M
theorem e_X11_lay {Y : List (Nat × Nat)} (d : Nat) (a1 : Int) (M : AM) (N : AM) (h : f_X11_lay a1 M = some N) : Ev Y (d + 0) m_X11_lay 0 [some (vR 0 21 0), some (vI a1), none] [] M none N := by
  unfold f_X11_lay at h
  refine Z_blk k_X11_lay 2 (pc' := 2) (lo' := [some (vR 0 21 0), some (vI a1), some (vI 3)]) (st' := []) (M1 := M) rfl ?_
  refine Z_mask [true, true, true] (lo0 := [some (vR 0 21 0), some (vI a1), some (vI 3)]) rfl ?_
  exact e_X11_lay_2 d zB a1 3 M _ h
theorem l_11_230 : zhas 6189 (Jvm.Cond.methodLink "BellPullHouseModel" 230 yX11_lay) = true := by decide +kernel
def f_X11_feed (a1 : Int) (a2 : Int) (a3 : Int) (a4 : Int) (a5 : Int) (M : AM) : Option (Int × AM) := zlet (am_upd M 0 1 0) fun M1 => if o_add (M1 0 8) 20 ≤ 900 then ((f_X11_lay a1 M1).bind fun x2 => (f_X11_lay a2 x2).bind fun x3 => (f_X11_lay a3 x3).bind fun x4 => (f_X11_lay a4 x4).bind fun x5 => (f_X11_lay a5 x5).bind fun x6 => some (x6 0 8, x6)) else some ((-1), M1)
theorem e_X11_feed {Y : List (Nat × Nat)} (d : Nat) (a1 : Int) (a2 : Int) (a3 : Int) (a4 : Int) (a5 : Int) (M : AM) (x : Int) (N : AM) (h : f_X11_feed a1 a2 a3 a4 a5 M = some (x, N)) : Ev Y (d + 1) m_X11_feed 0 [some (vR 0 21 0), some (vI a1), some (vI a2), some (vI a3), some (vI a4), some (vI a5)] [] M (some (vI x)) N := by
  unfold f_X11_feed at h
  obtain ⟨M1, eM1, h⟩ := of_zlet h
  refine Z_blk k_X11_feed 3 (pc' := 5) (lo' := [some (vR 0 21 0), some (vI a1), some (vI a2), some (vI a3), some (vI a4), some (vI a5)]) (st' := []) (M1 := M1) (by rw [eM1]; rfl) ?_
  refine Z_blk k_X11_feed 5 (pc' := 15) (lo' := [some (vR 0 21 0), some (vI a1), some (vI a2), some (vI a3), some (vI a4), some (vI a5)]) (st' := [vI 900, vI (o_add (M1 0 8) 20)]) (M1 := M1) rfl ?_
  refine Z_icmp k_X11_feed rfl 20 rfl (fun hc => ?_) (fun hc => ?_)
  · replace h := of_pos hc h
    refine Z_blk k_X11_feed 2 (pc' := 22) (lo' := [some (vR 0 21 0), some (vI a1), some (vI a2), some (vI a3), some (vI a4), some (vI a5)]) (st' := [vI a1, vR 0 21 0]) (M1 := M1) rfl ?_
    obtain ⟨x2, hx2, h⟩ := Option.bind_eq_some_iff.mp h
    refine Z_callV8 k_X11_feed k_X11_lay rfl rfl (l_11_230) (ci := 11) rfl [vI a1] [] rfl rfl (Nat.le_of_ble_eq_true rfl) (Nat.le_of_ble_eq_true rfl) (e_X11_lay (d + 0) a1 M1 _ hx2) ?_
    refine Z_blk k_X11_feed 2 (pc' := 27) (lo' := [some (vR 0 21 0), some (vI a1), some (vI a2), some (vI a3), some (vI a4), some (vI a5)]) (st' := [vI a2, vR 0 21 0]) (M1 := x2) rfl ?_
    obtain ⟨x3, hx3, h⟩ := Option.bind_eq_some_iff.mp h
    refine Z_callV8 k_X11_feed k_X11_lay rfl rfl (l_11_230) (ci := 11) rfl [vI a2] [] rfl rfl (Nat.le_of_ble_eq_true rfl) (Nat.le_of_ble_eq_true rfl) (e_X11_lay (d + 0) a2 x2 _ hx3) ?_
    refine Z_blk k_X11_feed 2 (pc' := 32) (lo' := [some (vR 0 21 0), some (vI a1), some (vI a2), some (vI a3), some (vI a4), some (vI a5)]) (st' := [vI a3, vR 0 21 0]) (M1 := x3) rfl ?_
    obtain ⟨x4, hx4, h⟩ := Option.bind_eq_some_iff.mp h
    refine Z_callV8 k_X11_feed k_X11_lay rfl rfl (l_11_230) (ci := 11) rfl [vI a3] [] rfl rfl (Nat.le_of_ble_eq_true rfl) (Nat.le_of_ble_eq_true rfl) (e_X11_lay (d + 0) a3 x3 _ hx4) ?_
    refine Z_blk k_X11_feed 2 (pc' := 38) (lo' := [some (vR 0 21 0), some (vI a1), some (vI a2), some (vI a3), some (vI a4), some (vI a5)]) (st' := [vI a4, vR 0 21 0]) (M1 := x4) rfl ?_
    obtain ⟨x5, hx5, h⟩ := Option.bind_eq_some_iff.mp h
    refine Z_callV8 k_X11_feed k_X11_lay rfl rfl (l_11_230) (ci := 11) rfl [vI a4] [] rfl rfl (Nat.le_of_ble_eq_true rfl) (Nat.le_of_ble_eq_true rfl) (e_X11_lay (d + 0) a4 x4 _ hx5) ?_
    refine Z_blk k_X11_feed 2 (pc' := 44) (lo' := [some (vR 0 21 0), some (vI a1), some (vI a2), some (vI a3), some (vI a4), some (vI a5)]) (st' := [vI a5, vR 0 21 0]) (M1 := x5) rfl ?_
    obtain ⟨x6, hx6, h⟩ := Option.bind_eq_some_iff.mp h
    refine Z_callV8 k_X11_feed k_X11_lay rfl rfl (l_11_230) (ci := 11) rfl [vI a5] [] rfl rfl (Nat.le_of_ble_eq_true rfl) (Nat.le_of_ble_eq_true rfl) (e_X11_lay (d + 0) a5 x5 _ hx6) ?_
    refine Z_blk k_X11_feed 2 (pc' := 51) (lo' := [some (vR 0 21 0), some (vI a1), some (vI a2), some (vI a3), some (vI a4), some (vI a5)]) (st' := [vI (x6 0 8)]) (M1 := x6) rfl ?_
    cases h
    exact Z_ret ⟨Or.inl rfl, _, rfl⟩ rfl
  · replace h := of_neg hc h
    refine Z_blk k_X11_feed 1 (pc' := 19) (lo' := [some (vR 0 21 0), some (vI a1), some (vI a2), some (vI a3), some (vI a4), some (vI a5)]) (st' := [vI (-1)]) (M1 := M1) rfl ?_
    cases h
    exact Z_ret ⟨Or.inl rfl, _, rfl⟩ rfl
def f_X11_starts_17 (M : AM) : Option (Int × AM) := (f_X11_no 5 M).bind fun x1 => if x1.1 = 0 ∨ x1.1 = 1 then some (x1.1, x1.2) else none
theorem e_X11_starts_17 {Y : List (Nat × Nat)} (d : Nat) (M : AM) (x : Int) (N : AM) (h : f_X11_starts_17 M = some (x, N)) : Ev Y (d + 2) m_X11_starts 17 [some (vR 0 21 0), none, none] [] M (some (vI x)) N := by
  unfold f_X11_starts_17 at h
  refine Z_blk k_X11_starts 2 (pc' := 19) (lo' := [some (vR 0 21 0), none, none]) (st' := [vI 5, vR 0 21 0]) (M1 := M) rfl ?_
  obtain ⟨x1, hx1, h⟩ := Option.bind_eq_some_iff.mp h
  refine Z_callV8 k_X11_starts k_X11_no rfl rfl (l_11_84) (ci := 11) rfl [vI 5] [] rfl rfl (Nat.le_of_ble_eq_true rfl) (Nat.le_of_ble_eq_true rfl) (e_X11_no (d + 1) 5 M _ _ hx1) ?_
  obtain ⟨hc2, h⟩ := of_grd h
  cases h
  exact Z_ret ⟨Or.inr ⟨rfl, hc2⟩, _, rfl⟩ rfl
def f_X11_starts (a1 : Int) (a2 : Int) (M : AM) : Option (Int × AM) := if a1 < 0 then f_X11_starts_17 M else (if M 0 8 < a1 then f_X11_starts_17 M else (if a1 ≤ a2 then (zlet (am_upd M 0 9 a1) fun M1 => zlet (am_upd M1 0 8 0) fun M2 => zlet (am_upd M2 0 16 0) fun M3 => zlet (am_upd M3 0 12 0) fun M4 => (f_X11_advance M4).bind fun x5 => some (1, x5)) else f_X11_starts_17 M))
theorem e_X11_starts {Y : List (Nat × Nat)} (d : Nat) (a1 : Int) (a2 : Int) (M : AM) (x : Int) (N : AM) (h : f_X11_starts a1 a2 M = some (x, N)) : Ev Y (d + 2) m_X11_starts 0 [some (vR 0 21 0), some (vI a1), some (vI a2)] [] M (some (vI x)) N := by
  unfold f_X11_starts at h
  refine Z_blk k_X11_starts 1 (pc' := 1) (lo' := [some (vR 0 21 0), some (vI a1), some (vI a2)]) (st' := [vI a1]) (M1 := M) rfl ?_
  refine Z_if k_X11_starts rfl 17 rfl (fun hc => ?_) (fun hc => ?_)
  · replace h := of_pos hc h
    refine Z_mask [true, false, false] (lo0 := [some (vR 0 21 0), none, none]) rfl ?_
    exact e_X11_starts_17 d M _ _ h
  · replace h := of_neg hc h
    refine Z_blk k_X11_starts 3 (pc' := 9) (lo' := [some (vR 0 21 0), some (vI a1), some (vI a2)]) (st' := [vI (M 0 8), vI a1]) (M1 := M) rfl ?_
    refine Z_icmp k_X11_starts rfl 17 rfl (fun hc => ?_) (fun hc => ?_)
    · replace h := of_pos hc h
      refine Z_mask [true, false, false] (lo0 := [some (vR 0 21 0), none, none]) rfl ?_
      exact e_X11_starts_17 d M _ _ h
    · replace h := of_neg hc h
      refine Z_blk k_X11_starts 2 (pc' := 14) (lo' := [some (vR 0 21 0), some (vI a1), some (vI a2)]) (st' := [vI a2, vI a1]) (M1 := M) rfl ?_
      refine Z_icmp k_X11_starts rfl 23 rfl (fun hc => ?_) (fun hc => ?_)
      · replace h := of_pos hc h
        obtain ⟨M1, eM1, h⟩ := of_zlet h
        refine Z_blk k_X11_starts 3 (pc' := 28) (lo' := [some (vR 0 21 0), some (vI a1), some (vI a2)]) (st' := []) (M1 := M1) (by rw [eM1]; rfl) ?_
        obtain ⟨M2, eM2, h⟩ := of_zlet h
        refine Z_blk k_X11_starts 3 (pc' := 33) (lo' := [some (vR 0 21 0), some (vI a1), some (vI a2)]) (st' := []) (M1 := M2) (by rw [eM2]; rfl) ?_
        obtain ⟨M3, eM3, h⟩ := of_zlet h
        refine Z_blk k_X11_starts 3 (pc' := 38) (lo' := [some (vR 0 21 0), some (vI a1), some (vI a2)]) (st' := []) (M1 := M3) (by rw [eM3]; rfl) ?_
        obtain ⟨M4, eM4, h⟩ := of_zlet h
        refine Z_blk k_X11_starts 3 (pc' := 43) (lo' := [some (vR 0 21 0), some (vI a1), some (vI a2)]) (st' := []) (M1 := M4) (by rw [eM4]; rfl) ?_
        refine Z_blk k_X11_starts 1 (pc' := 44) (lo' := [some (vR 0 21 0), some (vI a1), some (vI a2)]) (st' := [vR 0 21 0]) (M1 := M4) rfl ?_
        obtain ⟨x5, hx5, h⟩ := Option.bind_eq_some_iff.mp h
        refine Z_callV8 k_X11_starts k_X11_advance rfl rfl (l_11_214) (ci := 11) rfl [] [] rfl rfl (Nat.le_of_ble_eq_true rfl) (Nat.le_of_ble_eq_true rfl) (e_X11_advance (d + 0) M4 _ hx5) ?_
        refine Z_blk k_X11_starts 1 (pc' := 48) (lo' := [some (vR 0 21 0), some (vI a1), some (vI a2)]) (st' := [vI 1]) (M1 := x5) rfl ?_
        cases h
        exact Z_ret ⟨Or.inr ⟨rfl, Or.inr rfl⟩, _, rfl⟩ rfl
      · replace h := of_neg hc h
        refine Z_mask [true, false, false] (lo0 := [some (vR 0 21 0), none, none]) rfl ?_
        exact e_X11_starts_17 d M _ _ h
def f_X11_isWell_24 (s1 : Int) (M : AM) : Option (Int × AM) := zlet (am_upd M 0 11 s1) fun M1 => if M1 0 12 = 0 then some (1, M1) else ((f_X11_no 10 M1).bind fun x2 => if x2.1 = 0 then some (0, x2.2) else some (1, x2.2))
theorem e_X11_isWell_24 {Y : List (Nat × Nat)} (d : Nat) (s1 : Int) (M : AM) (x : Int) (N : AM) (h : f_X11_isWell_24 s1 M = some (x, N)) : Ev Y (d + 1) m_X11_isWell 24 [some (vR 0 21 0)] [vI s1, vR 0 21 0] M (some (vI x)) N := by
  unfold f_X11_isWell_24 at h
  obtain ⟨M1, eM1, h⟩ := of_zlet h
  refine Z_blk k_X11_isWell 1 (pc' := 27) (lo' := [some (vR 0 21 0)]) (st' := []) (M1 := M1) (by rw [eM1]; rfl) ?_
  refine Z_blk k_X11_isWell 2 (pc' := 31) (lo' := [some (vR 0 21 0)]) (st' := [vI (M1 0 12)]) (M1 := M1) rfl ?_
  refine Z_if k_X11_isWell rfl 43 rfl (fun hc => ?_) (fun hc => ?_)
  · replace h := of_pos hc h
    refine Z_blk k_X11_isWell 2 (pc' := 48) (lo' := [some (vR 0 21 0)]) (st' := [vI 1]) (M1 := M1) rfl ?_
    cases h
    exact Z_ret ⟨Or.inr ⟨rfl, Or.inr rfl⟩, _, rfl⟩ rfl
  · replace h := of_neg hc h
    refine Z_blk k_X11_isWell 2 (pc' := 37) (lo' := [some (vR 0 21 0)]) (st' := [vI 10, vR 0 21 0]) (M1 := M1) rfl ?_
    obtain ⟨x2, hx2, h⟩ := Option.bind_eq_some_iff.mp h
    refine Z_callV8 k_X11_isWell k_X11_no rfl rfl (l_11_84) (ci := 11) rfl [vI 10] [] rfl rfl (Nat.le_of_ble_eq_true rfl) (Nat.le_of_ble_eq_true rfl) (e_X11_no (d + 0) 10 M1 _ _ hx2) ?_
    refine Z_if k_X11_isWell rfl 47 rfl (fun hc => ?_) (fun hc => ?_)
    · replace h := of_pos hc h
      refine Z_blk k_X11_isWell 1 (pc' := 48) (lo' := [some (vR 0 21 0)]) (st' := [vI 0]) (M1 := x2.2) rfl ?_
      cases h
      exact Z_ret ⟨Or.inr ⟨rfl, Or.inl rfl⟩, _, rfl⟩ rfl
    · replace h := of_neg hc h
      refine Z_blk k_X11_isWell 2 (pc' := 48) (lo' := [some (vR 0 21 0)]) (st' := [vI 1]) (M1 := x2.2) rfl ?_
      cases h
      exact Z_ret ⟨Or.inr ⟨rfl, Or.inr rfl⟩, _, rfl⟩ rfl
def f_X11_isWell (M : AM) : Option (Int × AM) := zlet (am_upd M 0 10 (M 0 12)) fun M1 => if ¬ M1 0 12 = 0 then f_X11_isWell_24 (M1 0 13) M1 else f_X11_isWell_24 (-1) M1
theorem e_X11_isWell {Y : List (Nat × Nat)} (d : Nat) (M : AM) (x : Int) (N : AM) (h : f_X11_isWell M = some (x, N)) : Ev Y (d + 1) m_X11_isWell 0 [some (vR 0 21 0)] [] M (some (vI x)) N := by
  unfold f_X11_isWell at h
  obtain ⟨M1, eM1, h⟩ := of_zlet h
  refine Z_blk k_X11_isWell 4 (pc' := 8) (lo' := [some (vR 0 21 0)]) (st' := []) (M1 := M1) (by rw [eM1]; rfl) ?_
  refine Z_blk k_X11_isWell 3 (pc' := 13) (lo' := [some (vR 0 21 0)]) (st' := [vI (M1 0 12), vR 0 21 0]) (M1 := M1) rfl ?_
  refine Z_if k_X11_isWell rfl 20 rfl (fun hc => ?_) (fun hc => ?_)
  · replace h := of_pos hc h
    refine Z_blk k_X11_isWell 2 (pc' := 24) (lo' := [some (vR 0 21 0)]) (st' := [vI (M1 0 13), vR 0 21 0]) (M1 := M1) rfl ?_
    refine Z_mask [true] (lo0 := [some (vR 0 21 0)]) rfl ?_
    exact e_X11_isWell_24 d (M1 0 13) M1 _ _ h
  · replace h := of_neg hc h
    refine Z_blk k_X11_isWell 2 (pc' := 24) (lo' := [some (vR 0 21 0)]) (st' := [vI (-1), vR 0 21 0]) (M1 := M1) rfl ?_
    refine Z_mask [true] (lo0 := [some (vR 0 21 0)]) rfl ?_
    exact e_X11_isWell_24 d (-1) M1 _ _ h
def f_X11_fault (a1 : Int) (M : AM) : Option (Int × AM) := zlet (am_upd M 0 1 0) fun M1 => if ¬ a1 = 0 then (if ¬ a1 = 1 then some ((-1), M1) else some (M1 0 11, M1)) else some (M1 0 10, M1)
theorem e_X11_fault {Y : List (Nat × Nat)} (d : Nat) (a1 : Int) (M : AM) (x : Int) (N : AM) (h : f_X11_fault a1 M = some (x, N)) : Ev Y (d + 0) m_X11_fault 0 [some (vR 0 21 0), some (vI a1)] [] M (some (vI x)) N := by
  unfold f_X11_fault at h
  obtain ⟨M1, eM1, h⟩ := of_zlet h
  refine Z_blk k_X11_fault 3 (pc' := 5) (lo' := [some (vR 0 21 0), some (vI a1)]) (st' := []) (M1 := M1) (by rw [eM1]; rfl) ?_
  refine Z_blk k_X11_fault 1 (pc' := 6) (lo' := [some (vR 0 21 0), some (vI a1)]) (st' := [vI a1]) (M1 := M1) rfl ?_
  refine Z_if k_X11_fault rfl 16 rfl (fun hc => ?_) (fun hc => ?_)
  · replace h := of_pos hc h
    refine Z_blk k_X11_fault 2 (pc' := 18) (lo' := [some (vR 0 21 0), some (vI a1)]) (st' := [vI 1, vI a1]) (M1 := M1) rfl ?_
    refine Z_icmp k_X11_fault rfl 28 rfl (fun hc => ?_) (fun hc => ?_)
    · replace h := of_pos hc h
      refine Z_blk k_X11_fault 1 (pc' := 29) (lo' := [some (vR 0 21 0), some (vI a1)]) (st' := [vI (-1)]) (M1 := M1) rfl ?_
      cases h
      exact Z_ret ⟨Or.inl rfl, _, rfl⟩ rfl
    · replace h := of_neg hc h
      refine Z_blk k_X11_fault 3 (pc' := 29) (lo' := [some (vR 0 21 0), some (vI a1)]) (st' := [vI (M1 0 11)]) (M1 := M1) rfl ?_
      cases h
      exact Z_ret ⟨Or.inl rfl, _, rfl⟩ rfl
  · replace h := of_neg hc h
    refine Z_blk k_X11_fault 3 (pc' := 29) (lo' := [some (vR 0 21 0), some (vI a1)]) (st' := [vI (M1 0 10)]) (M1 := M1) rfl ?_
    cases h
    exact Z_ret ⟨Or.inl rfl, _, rfl⟩ rfl
def f_X11_empties_8 : Nat → Int → Int → AM → Option (AM)
  | 0, _, _, _ => none
  | n + 1, a2, a3, M => if 355 ≤ a3 then (if 0 ≤ o_add a2 3 ∧ o_add a2 3 < 1775 then (zlet (am_upd M 5 (Int.toNat (o_add a2 3)) 8) fun M2 => if 0 ≤ o_add a2 4 ∧ o_add a2 4 < 1775 then (zlet (am_upd M2 5 (Int.toNat (o_add a2 4)) 2) fun M4 => some M4) else none) else none) else (if 0 ≤ o_add a2 a3 ∧ o_add a2 a3 < 1775 then (zlet (am_upd M 5 (Int.toNat (o_add a2 a3)) 0) fun M6 => f_X11_empties_8 n a2 (o_add a3 1) M6) else none)
theorem e_X11_empties_8 {Y : List (Nat × Nat)} (d : Nat) : ∀ (n : Nat) (a2 : Int) (a3 : Int) (M : AM) (N : AM), f_X11_empties_8 n a2 a3 M = some N → Ev Y (d + 0) m_X11_empties 8 [some (vR 0 21 0), none, some (vI a2), some (vI a3)] [] M none N := by
  intro n
  induction n with
  | zero => intro a2 a3 M N h; cases h
  | succ n ih =>
    intro a2 a3 M N h
    simp only [f_X11_empties_8] at h
    refine Z_blk k_X11_empties 2 (pc' := 12) (lo' := [some (vR 0 21 0), none, some (vI a2), some (vI a3)]) (st' := [vI 355, vI a3]) (M1 := M) rfl ?_
    refine Z_icmp k_X11_empties rfl 30 rfl (fun hc => ?_) (fun hc => ?_)
    · replace h := of_pos hc h
      refine Z_blk k_X11_empties 6 (pc' := 39) (lo' := [some (vR 0 21 0), none, some (vI a2), some (vI a3)]) (st' := [vI 8, vI (o_add a2 3), vR 5 0 1775]) (M1 := M) rfl ?_
      obtain ⟨hc1, h⟩ := of_grd h
      obtain ⟨M2, eM2, h⟩ := of_zlet h
      refine Z_one k_X11_empties rfl (pc' := 40) (lo' := [some (vR 0 21 0), none, some (vI a2), some (vI a3)]) (st' := []) (M1 := M2) (by rw [eM2]; exact if_pos hc1) ?_
      refine Z_blk k_X11_empties 6 (pc' := 48) (lo' := [some (vR 0 21 0), none, some (vI a2), some (vI a3)]) (st' := [vI 2, vI (o_add a2 4), vR 5 0 1775]) (M1 := M2) rfl ?_
      obtain ⟨hc3, h⟩ := of_grd h
      obtain ⟨M4, eM4, h⟩ := of_zlet h
      refine Z_one k_X11_empties rfl (pc' := 49) (lo' := [some (vR 0 21 0), none, some (vI a2), some (vI a3)]) (st' := []) (M1 := M4) (by rw [eM4]; exact if_pos hc3) ?_
      cases h
      exact Z_ret ⟨rfl, _, rfl⟩ rfl
    · replace h := of_neg hc h
      refine Z_blk k_X11_empties 6 (pc' := 23) (lo' := [some (vR 0 21 0), none, some (vI a2), some (vI a3)]) (st' := [vI 0, vI (o_add a2 a3), vR 5 0 1775]) (M1 := M) rfl ?_
      obtain ⟨hc5, h⟩ := of_grd h
      obtain ⟨M6, eM6, h⟩ := of_zlet h
      refine Z_one k_X11_empties rfl (pc' := 24) (lo' := [some (vR 0 21 0), none, some (vI a2), some (vI a3)]) (st' := []) (M1 := M6) (by rw [eM6]; exact if_pos hc5) ?_
      refine Z_blk k_X11_empties 2 (pc' := 8) (lo' := [some (vR 0 21 0), none, some (vI a2), some (vI (o_add a3 1))]) (st' := []) (M1 := M6) rfl ?_
      refine Z_mask [true, false, true, true] (lo0 := [some (vR 0 21 0), none, some (vI a2), some (vI (o_add a3 1))]) rfl ?_
      exact ih a2 (o_add a3 1) M6 _ h
def f_X11_empties (a1 : Int) (M : AM) : Option (AM) := f_X11_empties_8 zB (o_mul 355 a1) 0 M
theorem e_X11_empties {Y : List (Nat × Nat)} (d : Nat) (a1 : Int) (M : AM) (N : AM) (h : f_X11_empties a1 M = some N) : Ev Y (d + 0) m_X11_empties 0 [some (vR 0 21 0), some (vI a1), none, none] [] M none N := by
  unfold f_X11_empties at h
  refine Z_blk k_X11_empties 6 (pc' := 8) (lo' := [some (vR 0 21 0), some (vI a1), some (vI (o_mul 355 a1)), some (vI 0)]) (st' := []) (M1 := M) rfl ?_
  refine Z_mask [true, false, true, true] (lo0 := [some (vR 0 21 0), none, some (vI (o_mul 355 a1)), some (vI 0)]) rfl ?_
  exact e_X11_empties_8 d zB (o_mul 355 a1) 0 M _ h
def f_X11_namesFrom (a0 : Int) (M : AM) : Option (Int × AM) := if ¬ a0 = 0 then (if ¬ a0 = 1 then some (18, M) else some (8, M)) else some (0, M)
theorem e_X11_namesFrom {Y : List (Nat × Nat)} (d : Nat) (a0 : Int) (M : AM) (x : Int) (N : AM) (h : f_X11_namesFrom a0 M = some (x, N)) : Ev Y (d + 0) m_X11_namesFrom 0 [some (vI a0)] [] M (some (vI x)) N := by
  unfold f_X11_namesFrom at h
  refine Z_blk k_X11_namesFrom 1 (pc' := 1) (lo' := [some (vI a0)]) (st' := [vI a0]) (M1 := M) rfl ?_
  refine Z_if k_X11_namesFrom rfl 8 rfl (fun hc => ?_) (fun hc => ?_)
  · replace h := of_pos hc h
    refine Z_blk k_X11_namesFrom 2 (pc' := 10) (lo' := [some (vI a0)]) (st' := [vI 1, vI a0]) (M1 := M) rfl ?_
    refine Z_icmp k_X11_namesFrom rfl 18 rfl (fun hc => ?_) (fun hc => ?_)
    · replace h := of_pos hc h
      refine Z_blk k_X11_namesFrom 1 (pc' := 20) (lo' := [some (vI a0)]) (st' := [vI 18]) (M1 := M) rfl ?_
      cases h
      exact Z_ret ⟨Or.inl rfl, _, rfl⟩ rfl
    · replace h := of_neg hc h
      refine Z_blk k_X11_namesFrom 2 (pc' := 20) (lo' := [some (vI a0)]) (st' := [vI 8]) (M1 := M) rfl ?_
      cases h
      exact Z_ret ⟨Or.inl rfl, _, rfl⟩ rfl
  · replace h := of_neg hc h
    refine Z_blk k_X11_namesFrom 2 (pc' := 20) (lo' := [some (vI a0)]) (st' := [vI 0]) (M1 := M) rfl ?_
    cases h
    exact Z_ret ⟨Or.inl rfl, _, rfl⟩ rfl
theorem l_11_233 : zhas 7094 (Jvm.Cond.methodLink "BellPullHouseModel" 233 yX11_namesFrom) = true := by decide +kernel
def f_X11_named_2 : Nat → Int → Int → Int → AM → Option (Int × AM)
  | 0, _, _, _, _ => none
  | n + 1, a1, a2, a3, M => if 0 ≤ o_add (o_mul 355 a1) a2 ∧ o_add (o_mul 355 a1) a2 < 1775 then (if M 5 (Int.toNat (o_add (o_mul 355 a1) a2)) ≤ a3 then some ((-1), M) else ((f_X11_namesFrom a2 M).bind fun x2 => if 0 ≤ o_add (o_add (o_mul 24 a1) x2.1) a3 ∧ o_add (o_add (o_mul 24 a1) x2.1) a3 < 120 then (if ¬ l_cmp (x2.2 8 (Int.toNat (o_add (o_add (o_mul 24 a1) x2.1) a3))) (x2.2 0 19) = 0 then f_X11_named_2 n a1 a2 (o_add a3 1) x2.2 else some (a3, x2.2)) else none)) else none
theorem e_X11_named_2 {Y : List (Nat × Nat)} (d : Nat) : ∀ (n : Nat) (a1 : Int) (a2 : Int) (a3 : Int) (M : AM) (x : Int) (N : AM), f_X11_named_2 n a1 a2 a3 M = some (x, N) → Ev Y (d + 1) m_X11_named 2 [some (vR 0 21 0), some (vI a1), some (vI a2), some (vI a3)] [] M (some (vI x)) N := by
  intro n
  induction n with
  | zero => intro a1 a2 a3 M x N h; cases h
  | succ n ih =>
    intro a1 a2 a3 M x N h
    simp only [f_X11_named_2] at h
    refine Z_blk k_X11_named 8 (pc' := 14) (lo' := [some (vR 0 21 0), some (vI a1), some (vI a2), some (vI a3)]) (st' := [vI (o_add (o_mul 355 a1) a2), vR 5 0 1775, vI a3]) (M1 := M) rfl ?_
    obtain ⟨hc1, h⟩ := of_grd h
    refine Z_one k_X11_named rfl (pc' := 15) (lo' := [some (vR 0 21 0), some (vI a1), some (vI a2), some (vI a3)]) (st' := [vI (M 5 (Int.toNat (o_add (o_mul 355 a1) a2))), vI a3]) (M1 := M) (if_pos hc1) ?_
    refine Z_icmp k_X11_named rfl 50 rfl (fun hc => ?_) (fun hc => ?_)
    · replace h := of_pos hc h
      refine Z_blk k_X11_named 1 (pc' := 51) (lo' := [some (vR 0 21 0), some (vI a1), some (vI a2), some (vI a3)]) (st' := [vI (-1)]) (M1 := M) rfl ?_
      cases h
      exact Z_ret ⟨Or.inl rfl, _, rfl⟩ rfl
    · replace h := of_neg hc h
      refine Z_blk k_X11_named 6 (pc' := 27) (lo' := [some (vR 0 21 0), some (vI a1), some (vI a2), some (vI a3)]) (st' := [vI a2, vI (o_mul 24 a1), vR 8 1 120]) (M1 := M) rfl ?_
      obtain ⟨x2, hx2, h⟩ := Option.bind_eq_some_iff.mp h
      refine Z_callS8 k_X11_named k_X11_namesFrom rfl rfl (l_11_233) [vI a2] [vI (o_mul 24 a1), vR 8 1 120] rfl rfl (Nat.le_of_ble_eq_true rfl) (Nat.le_of_ble_eq_true rfl) (e_X11_namesFrom (d + 0) a2 M _ _ hx2) ?_
      refine Z_blk k_X11_named 3 (pc' := 33) (lo' := [some (vR 0 21 0), some (vI a1), some (vI a2), some (vI a3)]) (st' := [vI (o_add (o_add (o_mul 24 a1) x2.1) a3), vR 8 1 120]) (M1 := x2.2) rfl ?_
      obtain ⟨hc3, h⟩ := of_grd h
      refine Z_one k_X11_named rfl (pc' := 34) (lo' := [some (vR 0 21 0), some (vI a1), some (vI a2), some (vI a3)]) (st' := [vL (x2.2 8 (Int.toNat (o_add (o_add (o_mul 24 a1) x2.1) a3)))]) (M1 := x2.2) (if_pos hc3) ?_
      refine Z_blk k_X11_named 3 (pc' := 39) (lo' := [some (vR 0 21 0), some (vI a1), some (vI a2), some (vI a3)]) (st' := [vI (l_cmp (x2.2 8 (Int.toNat (o_add (o_add (o_mul 24 a1) x2.1) a3))) (x2.2 0 19))]) (M1 := x2.2) rfl ?_
      refine Z_if k_X11_named rfl 44 rfl (fun hc => ?_) (fun hc => ?_)
      · replace h := of_pos hc h
        refine Z_blk k_X11_named 2 (pc' := 2) (lo' := [some (vR 0 21 0), some (vI a1), some (vI a2), some (vI (o_add a3 1))]) (st' := []) (M1 := x2.2) rfl ?_
        refine Z_mask [true, true, true, true] (lo0 := [some (vR 0 21 0), some (vI a1), some (vI a2), some (vI (o_add a3 1))]) rfl ?_
        exact ih a1 a2 (o_add a3 1) x2.2 _ _ h
      · replace h := of_neg hc h
        refine Z_blk k_X11_named 1 (pc' := 43) (lo' := [some (vR 0 21 0), some (vI a1), some (vI a2), some (vI a3)]) (st' := [vI a3]) (M1 := x2.2) rfl ?_
        cases h
        exact Z_ret ⟨Or.inl rfl, _, rfl⟩ rfl
def f_X11_named (a1 : Int) (a2 : Int) (M : AM) : Option (Int × AM) := f_X11_named_2 zB a1 a2 0 M
theorem e_X11_named {Y : List (Nat × Nat)} (d : Nat) (a1 : Int) (a2 : Int) (M : AM) (x : Int) (N : AM) (h : f_X11_named a1 a2 M = some (x, N)) : Ev Y (d + 1) m_X11_named 0 [some (vR 0 21 0), some (vI a1), some (vI a2), none] [] M (some (vI x)) N := by
  unfold f_X11_named at h
  refine Z_blk k_X11_named 2 (pc' := 2) (lo' := [some (vR 0 21 0), some (vI a1), some (vI a2), some (vI 0)]) (st' := []) (M1 := M) rfl ?_
  refine Z_mask [true, true, true, true] (lo0 := [some (vR 0 21 0), some (vI a1), some (vI a2), some (vI 0)]) rfl ?_
  exact e_X11_named_2 d zB a1 a2 0 M _ _ h
theorem l_11_236 : zhas 7038 (Jvm.Cond.methodLink "BellPullHouseModel" 236 yX11_isName) = true := by decide +kernel
theorem l_11_239 : zhas 7090 (Jvm.Cond.methodLink "BellPullHouseModel" 239 yX11_named) = true := by decide +kernel
def f_X11_readNew_93 (a1 : Int) (a3 : Int) (M : AM) : Option (Int × AM) := if M 0 12 ≤ 0 then ((f_X11_namesFrom a1 M).bind fun x1 => if 0 ≤ o_add (o_add 96 x1.1) a3 ∧ o_add (o_add 96 x1.1) a3 < 120 then (zlet (am_upd x1.2 8 (Int.toNat (o_add (o_add 96 x1.1) a3)) (x1.2 0 19)) fun M3 => (f_X11_advance M3).bind fun x4 => some (a3, x4)) else none) else some (0, M)
theorem e_X11_readNew_93 {Y : List (Nat × Nat)} (d : Nat) (a1 : Int) (a3 : Int) (M : AM) (x : Int) (N : AM) (h : f_X11_readNew_93 a1 a3 M = some (x, N)) : Ev Y (d + 5) m_X11_readNew 93 [some (vR 0 21 0), some (vI a1), none, some (vI a3)] [] M (some (vI x)) N := by
  unfold f_X11_readNew_93 at h
  refine Z_blk k_X11_readNew 2 (pc' := 97) (lo' := [some (vR 0 21 0), some (vI a1), none, some (vI a3)]) (st' := [vI (M 0 12)]) (M1 := M) rfl ?_
  refine Z_if k_X11_readNew rfl 102 rfl (fun hc => ?_) (fun hc => ?_)
  · replace h := of_pos hc h
    refine Z_blk k_X11_readNew 4 (pc' := 109) (lo' := [some (vR 0 21 0), some (vI a1), none, some (vI a3)]) (st' := [vI a1, vI 96, vR 8 1 120]) (M1 := M) rfl ?_
    obtain ⟨x1, hx1, h⟩ := Option.bind_eq_some_iff.mp h
    refine Z_callS8 k_X11_readNew k_X11_namesFrom rfl rfl (l_11_233) [vI a1] [vI 96, vR 8 1 120] rfl rfl (Nat.le_of_ble_eq_true rfl) (Nat.le_of_ble_eq_true rfl) (e_X11_namesFrom (d + 4) a1 M _ _ hx1) ?_
    refine Z_blk k_X11_readNew 5 (pc' := 119) (lo' := [some (vR 0 21 0), some (vI a1), none, some (vI a3)]) (st' := [vL (x1.2 0 19), vI (o_add (o_add 96 x1.1) a3), vR 8 1 120]) (M1 := x1.2) rfl ?_
    obtain ⟨hc2, h⟩ := of_grd h
    obtain ⟨M3, eM3, h⟩ := of_zlet h
    refine Z_one k_X11_readNew rfl (pc' := 120) (lo' := [some (vR 0 21 0), some (vI a1), none, some (vI a3)]) (st' := []) (M1 := M3) (by rw [eM3]; exact if_pos hc2) ?_
    refine Z_blk k_X11_readNew 1 (pc' := 121) (lo' := [some (vR 0 21 0), some (vI a1), none, some (vI a3)]) (st' := [vR 0 21 0]) (M1 := M3) rfl ?_
    obtain ⟨x4, hx4, h⟩ := Option.bind_eq_some_iff.mp h
    refine Z_callV8 k_X11_readNew k_X11_advance rfl rfl (l_11_214) (ci := 11) rfl [] [] rfl rfl (Nat.le_of_ble_eq_true rfl) (Nat.le_of_ble_eq_true rfl) (e_X11_advance (d + 3) M3 _ hx4) ?_
    refine Z_blk k_X11_readNew 1 (pc' := 125) (lo' := [some (vR 0 21 0), some (vI a1), none, some (vI a3)]) (st' := [vI a3]) (M1 := x4) rfl ?_
    cases h
    exact Z_ret ⟨Or.inl rfl, _, rfl⟩ rfl
  · replace h := of_neg hc h
    refine Z_blk k_X11_readNew 1 (pc' := 101) (lo' := [some (vR 0 21 0), some (vI a1), none, some (vI a3)]) (st' := [vI 0]) (M1 := M) rfl ?_
    cases h
    exact Z_ret ⟨Or.inl rfl, _, rfl⟩ rfl
def f_X11_readNew_84 (a1 : Int) (a3 : Int) (M : AM) : Option (Int × AM) := (f_X11_fail 3 (M 0 15) M).bind fun x1 => f_X11_readNew_93 a1 a3 x1
theorem e_X11_readNew_84 {Y : List (Nat × Nat)} (d : Nat) (a1 : Int) (a3 : Int) (M : AM) (x : Int) (N : AM) (h : f_X11_readNew_84 a1 a3 M = some (x, N)) : Ev Y (d + 5) m_X11_readNew 84 [some (vR 0 21 0), some (vI a1), none, some (vI a3)] [] M (some (vI x)) N := by
  unfold f_X11_readNew_84 at h
  refine Z_blk k_X11_readNew 4 (pc' := 90) (lo' := [some (vR 0 21 0), some (vI a1), none, some (vI a3)]) (st' := [vI (M 0 15), vI 3, vR 0 21 0]) (M1 := M) rfl ?_
  obtain ⟨x1, hx1, h⟩ := Option.bind_eq_some_iff.mp h
  refine Z_callV8 k_X11_readNew k_X11_fail rfl rfl (l_11_210) (ci := 11) rfl [vI 3, vI (M 0 15)] [] rfl rfl (Nat.le_of_ble_eq_true rfl) (Nat.le_of_ble_eq_true rfl) (e_X11_fail (d + 4) 3 (M 0 15) M _ hx1) ?_
  refine Z_mask [true, true, false, true] (lo0 := [some (vR 0 21 0), some (vI a1), none, some (vI a3)]) rfl ?_
  exact e_X11_readNew_93 d a1 a3 x1 _ _ h
def f_X11_readNew_50 (a1 : Int) (a3 : Int) (M : AM) : Option (Int × AM) := if ¬ M 0 12 = 0 then f_X11_readNew_93 a1 a3 M else ((f_X11_named 4 0 M).bind fun x1 => if 0 ≤ x1.1 then f_X11_readNew_84 a1 a3 x1.2 else ((f_X11_named 4 1 x1.2).bind fun x2 => if 0 ≤ x2.1 then f_X11_readNew_84 a1 a3 x2.2 else ((f_X11_named 4 2 x2.2).bind fun x3 => if x3.1 < 0 then f_X11_readNew_93 a1 a3 x3.2 else f_X11_readNew_84 a1 a3 x3.2)))
theorem e_X11_readNew_50 {Y : List (Nat × Nat)} (d : Nat) (a1 : Int) (a3 : Int) (M : AM) (x : Int) (N : AM) (h : f_X11_readNew_50 a1 a3 M = some (x, N)) : Ev Y (d + 5) m_X11_readNew 50 [some (vR 0 21 0), some (vI a1), none, some (vI a3)] [] M (some (vI x)) N := by
  unfold f_X11_readNew_50 at h
  refine Z_blk k_X11_readNew 2 (pc' := 54) (lo' := [some (vR 0 21 0), some (vI a1), none, some (vI a3)]) (st' := [vI (M 0 12)]) (M1 := M) rfl ?_
  refine Z_if k_X11_readNew rfl 93 rfl (fun hc => ?_) (fun hc => ?_)
  · replace h := of_pos hc h
    refine Z_mask [true, true, false, true] (lo0 := [some (vR 0 21 0), some (vI a1), none, some (vI a3)]) rfl ?_
    exact e_X11_readNew_93 d a1 a3 M _ _ h
  · replace h := of_neg hc h
    refine Z_blk k_X11_readNew 3 (pc' := 60) (lo' := [some (vR 0 21 0), some (vI a1), none, some (vI a3)]) (st' := [vI 0, vI 4, vR 0 21 0]) (M1 := M) rfl ?_
    obtain ⟨x1, hx1, h⟩ := Option.bind_eq_some_iff.mp h
    refine Z_callV8 k_X11_readNew k_X11_named rfl rfl (l_11_239) (ci := 11) rfl [vI 4, vI 0] [] rfl rfl (Nat.le_of_ble_eq_true rfl) (Nat.le_of_ble_eq_true rfl) (e_X11_named (d + 3) 4 0 M _ _ hx1) ?_
    refine Z_if k_X11_readNew rfl 84 rfl (fun hc => ?_) (fun hc => ?_)
    · replace h := of_pos hc h
      refine Z_mask [true, true, false, true] (lo0 := [some (vR 0 21 0), some (vI a1), none, some (vI a3)]) rfl ?_
      exact e_X11_readNew_84 d a1 a3 x1.2 _ _ h
    · replace h := of_neg hc h
      refine Z_blk k_X11_readNew 3 (pc' := 69) (lo' := [some (vR 0 21 0), some (vI a1), none, some (vI a3)]) (st' := [vI 1, vI 4, vR 0 21 0]) (M1 := x1.2) rfl ?_
      obtain ⟨x2, hx2, h⟩ := Option.bind_eq_some_iff.mp h
      refine Z_callV8 k_X11_readNew k_X11_named rfl rfl (l_11_239) (ci := 11) rfl [vI 4, vI 1] [] rfl rfl (Nat.le_of_ble_eq_true rfl) (Nat.le_of_ble_eq_true rfl) (e_X11_named (d + 3) 4 1 x1.2 _ _ hx2) ?_
      refine Z_if k_X11_readNew rfl 84 rfl (fun hc => ?_) (fun hc => ?_)
      · replace h := of_pos hc h
        refine Z_mask [true, true, false, true] (lo0 := [some (vR 0 21 0), some (vI a1), none, some (vI a3)]) rfl ?_
        exact e_X11_readNew_84 d a1 a3 x2.2 _ _ h
      · replace h := of_neg hc h
        refine Z_blk k_X11_readNew 3 (pc' := 78) (lo' := [some (vR 0 21 0), some (vI a1), none, some (vI a3)]) (st' := [vI 2, vI 4, vR 0 21 0]) (M1 := x2.2) rfl ?_
        obtain ⟨x3, hx3, h⟩ := Option.bind_eq_some_iff.mp h
        refine Z_callV8 k_X11_readNew k_X11_named rfl rfl (l_11_239) (ci := 11) rfl [vI 4, vI 2] [] rfl rfl (Nat.le_of_ble_eq_true rfl) (Nat.le_of_ble_eq_true rfl) (e_X11_named (d + 3) 4 2 x2.2 _ _ hx3) ?_
        refine Z_if k_X11_readNew rfl 93 rfl (fun hc => ?_) (fun hc => ?_)
        · replace h := of_pos hc h
          refine Z_mask [true, true, false, true] (lo0 := [some (vR 0 21 0), some (vI a1), none, some (vI a3)]) rfl ?_
          exact e_X11_readNew_93 d a1 a3 x3.2 _ _ h
        · replace h := of_neg hc h
          refine Z_mask [true, true, false, true] (lo0 := [some (vR 0 21 0), some (vI a1), none, some (vI a3)]) rfl ?_
          exact e_X11_readNew_84 d a1 a3 x3.2 _ _ h
def f_X11_readNew_26 (a1 : Int) (a3 : Int) (M : AM) : Option (Int × AM) := if M 0 12 ≤ 0 then ((f_X11_advance M).bind fun x1 => (f_X11_isName x1).bind fun x2 => if ¬ x2.1 = 0 then f_X11_readNew_50 a1 a3 x2.2 else ((f_X11_amiss x2.2).bind fun x3 => f_X11_readNew_50 a1 a3 x3)) else some (0, M)
theorem e_X11_readNew_26 {Y : List (Nat × Nat)} (d : Nat) (a1 : Int) (a3 : Int) (M : AM) (x : Int) (N : AM) (h : f_X11_readNew_26 a1 a3 M = some (x, N)) : Ev Y (d + 5) m_X11_readNew 26 [some (vR 0 21 0), some (vI a1), none, some (vI a3)] [] M (some (vI x)) N := by
  unfold f_X11_readNew_26 at h
  refine Z_blk k_X11_readNew 2 (pc' := 30) (lo' := [some (vR 0 21 0), some (vI a1), none, some (vI a3)]) (st' := [vI (M 0 12)]) (M1 := M) rfl ?_
  refine Z_if k_X11_readNew rfl 35 rfl (fun hc => ?_) (fun hc => ?_)
  · replace h := of_pos hc h
    refine Z_blk k_X11_readNew 1 (pc' := 36) (lo' := [some (vR 0 21 0), some (vI a1), none, some (vI a3)]) (st' := [vR 0 21 0]) (M1 := M) rfl ?_
    obtain ⟨x1, hx1, h⟩ := Option.bind_eq_some_iff.mp h
    refine Z_callV8 k_X11_readNew k_X11_advance rfl rfl (l_11_214) (ci := 11) rfl [] [] rfl rfl (Nat.le_of_ble_eq_true rfl) (Nat.le_of_ble_eq_true rfl) (e_X11_advance (d + 3) M _ hx1) ?_
    refine Z_blk k_X11_readNew 1 (pc' := 40) (lo' := [some (vR 0 21 0), some (vI a1), none, some (vI a3)]) (st' := [vR 0 21 0]) (M1 := x1) rfl ?_
    obtain ⟨x2, hx2, h⟩ := Option.bind_eq_some_iff.mp h
    refine Z_callV8 k_X11_readNew k_X11_isName rfl rfl (l_11_236) (ci := 11) rfl [] [] rfl rfl (Nat.le_of_ble_eq_true rfl) (Nat.le_of_ble_eq_true rfl) (e_X11_isName (d + 0) x1 _ _ hx2) ?_
    refine Z_if k_X11_readNew rfl 50 rfl (fun hc => ?_) (fun hc => ?_)
    · replace h := of_pos hc h
      refine Z_mask [true, true, false, true] (lo0 := [some (vR 0 21 0), some (vI a1), none, some (vI a3)]) rfl ?_
      exact e_X11_readNew_50 d a1 a3 x2.2 _ _ h
    · replace h := of_neg hc h
      refine Z_blk k_X11_readNew 1 (pc' := 47) (lo' := [some (vR 0 21 0), some (vI a1), none, some (vI a3)]) (st' := [vR 0 21 0]) (M1 := x2.2) rfl ?_
      obtain ⟨x3, hx3, h⟩ := Option.bind_eq_some_iff.mp h
      refine Z_callV8 k_X11_readNew k_X11_amiss rfl rfl (l_11_217) (ci := 11) rfl [] [] rfl rfl (Nat.le_of_ble_eq_true rfl) (Nat.le_of_ble_eq_true rfl) (e_X11_amiss (d + 3) x2.2 _ hx3) ?_
      refine Z_mask [true, true, false, true] (lo0 := [some (vR 0 21 0), some (vI a1), none, some (vI a3)]) rfl ?_
      exact e_X11_readNew_50 d a1 a3 x3 _ _ h
  · replace h := of_neg hc h
    refine Z_blk k_X11_readNew 1 (pc' := 34) (lo' := [some (vR 0 21 0), some (vI a1), none, some (vI a3)]) (st' := [vI 0]) (M1 := M) rfl ?_
    cases h
    exact Z_ret ⟨Or.inl rfl, _, rfl⟩ rfl
def f_X11_readNew (a1 : Int) (a2 : Int) (M : AM) : Option (Int × AM) := if 0 ≤ o_add 1420 a1 ∧ o_add 1420 a1 < 1775 then (if ¬ M 5 (Int.toNat (o_add 1420 a1)) = a2 then f_X11_readNew_26 a1 (M 5 (Int.toNat (o_add 1420 a1))) M else ((f_X11_fail 6 (M 0 15) M).bind fun x2 => f_X11_readNew_26 a1 (M 5 (Int.toNat (o_add 1420 a1))) x2)) else none
theorem e_X11_readNew {Y : List (Nat × Nat)} (d : Nat) (a1 : Int) (a2 : Int) (M : AM) (x : Int) (N : AM) (h : f_X11_readNew a1 a2 M = some (x, N)) : Ev Y (d + 5) m_X11_readNew 0 [some (vR 0 21 0), some (vI a1), some (vI a2), none] [] M (some (vI x)) N := by
  unfold f_X11_readNew at h
  refine Z_blk k_X11_readNew 5 (pc' := 9) (lo' := [some (vR 0 21 0), some (vI a1), some (vI a2), none]) (st' := [vI (o_add 1420 a1), vR 5 0 1775]) (M1 := M) rfl ?_
  obtain ⟨hc1, h⟩ := of_grd h
  refine Z_one k_X11_readNew rfl (pc' := 10) (lo' := [some (vR 0 21 0), some (vI a1), some (vI a2), none]) (st' := [vI (M 5 (Int.toNat (o_add 1420 a1)))]) (M1 := M) (if_pos hc1) ?_
  refine Z_blk k_X11_readNew 3 (pc' := 13) (lo' := [some (vR 0 21 0), some (vI a1), some (vI a2), some (vI (M 5 (Int.toNat (o_add 1420 a1))))]) (st' := [vI a2, vI (M 5 (Int.toNat (o_add 1420 a1)))]) (M1 := M) rfl ?_
  refine Z_icmp k_X11_readNew rfl 26 rfl (fun hc => ?_) (fun hc => ?_)
  · replace h := of_pos hc h
    refine Z_mask [true, true, false, true] (lo0 := [some (vR 0 21 0), some (vI a1), none, some (vI (M 5 (Int.toNat (o_add 1420 a1))))]) rfl ?_
    exact e_X11_readNew_26 d a1 (M 5 (Int.toNat (o_add 1420 a1))) M _ _ h
  · replace h := of_neg hc h
    refine Z_blk k_X11_readNew 4 (pc' := 23) (lo' := [some (vR 0 21 0), some (vI a1), some (vI a2), some (vI (M 5 (Int.toNat (o_add 1420 a1))))]) (st' := [vI (M 0 15), vI 6, vR 0 21 0]) (M1 := M) rfl ?_
    obtain ⟨x2, hx2, h⟩ := Option.bind_eq_some_iff.mp h
    refine Z_callV8 k_X11_readNew k_X11_fail rfl rfl (l_11_210) (ci := 11) rfl [vI 6, vI (M 0 15)] [] rfl rfl (Nat.le_of_ble_eq_true rfl) (Nat.le_of_ble_eq_true rfl) (e_X11_fail (d + 4) 6 (M 0 15) M _ hx2) ?_
    refine Z_mask [true, true, false, true] (lo0 := [some (vR 0 21 0), some (vI a1), none, some (vI (M 5 (Int.toNat (o_add 1420 a1))))]) rfl ?_
    exact e_X11_readNew_26 d a1 (M 5 (Int.toNat (o_add 1420 a1))) x2 _ _ h
def f_X11_told_47 (a3 : Int) (M : AM) : Option (Int × AM) := some (o_max 0 a3, M)
theorem e_X11_told_47 {Y : List (Nat × Nat)} (d : Nat) (a3 : Int) (M : AM) (x : Int) (N : AM) (h : f_X11_told_47 a3 M = some (x, N)) : Ev Y (d + 5) m_X11_told 47 [none, none, none, some (vI a3)] [] M (some (vI x)) N := by
  unfold f_X11_told_47 at h
  refine Z_blk k_X11_told 3 (pc' := 52) (lo' := [none, none, none, some (vI a3)]) (st' := [vI (o_max 0 a3)]) (M1 := M) rfl ?_
  cases h
  exact Z_ret ⟨Or.inl rfl, _, rfl⟩ rfl
def f_X11_told_18 (a1 : Int) (a2 : Int) (M : AM) : Option (Int × AM) := if M 0 12 ≤ 0 then ((f_X11_named a1 a2 M).bind fun x1 => if 0 ≤ x1.1 then f_X11_told_47 x1.1 x1.2 else ((f_X11_fail 3 (x1.2 0 15) x1.2).bind fun x2 => f_X11_told_47 x1.1 x2)) else some (0, M)
theorem e_X11_told_18 {Y : List (Nat × Nat)} (d : Nat) (a1 : Int) (a2 : Int) (M : AM) (x : Int) (N : AM) (h : f_X11_told_18 a1 a2 M = some (x, N)) : Ev Y (d + 5) m_X11_told 18 [some (vR 0 21 0), some (vI a1), some (vI a2), none] [] M (some (vI x)) N := by
  unfold f_X11_told_18 at h
  refine Z_blk k_X11_told 2 (pc' := 22) (lo' := [some (vR 0 21 0), some (vI a1), some (vI a2), none]) (st' := [vI (M 0 12)]) (M1 := M) rfl ?_
  refine Z_if k_X11_told rfl 27 rfl (fun hc => ?_) (fun hc => ?_)
  · replace h := of_pos hc h
    refine Z_blk k_X11_told 3 (pc' := 30) (lo' := [some (vR 0 21 0), some (vI a1), some (vI a2), none]) (st' := [vI a2, vI a1, vR 0 21 0]) (M1 := M) rfl ?_
    obtain ⟨x1, hx1, h⟩ := Option.bind_eq_some_iff.mp h
    refine Z_callV8 k_X11_told k_X11_named rfl rfl (l_11_239) (ci := 11) rfl [vI a1, vI a2] [] rfl rfl (Nat.le_of_ble_eq_true rfl) (Nat.le_of_ble_eq_true rfl) (e_X11_named (d + 3) a1 a2 M _ _ hx1) ?_
    refine Z_blk k_X11_told 2 (pc' := 35) (lo' := [some (vR 0 21 0), some (vI a1), some (vI a2), some (vI x1.1)]) (st' := [vI x1.1]) (M1 := x1.2) rfl ?_
    refine Z_if k_X11_told rfl 47 rfl (fun hc => ?_) (fun hc => ?_)
    · replace h := of_pos hc h
      refine Z_mask [false, false, false, true] (lo0 := [none, none, none, some (vI x1.1)]) rfl ?_
      exact e_X11_told_47 d x1.1 x1.2 _ _ h
    · replace h := of_neg hc h
      refine Z_blk k_X11_told 4 (pc' := 44) (lo' := [some (vR 0 21 0), some (vI a1), some (vI a2), some (vI x1.1)]) (st' := [vI (x1.2 0 15), vI 3, vR 0 21 0]) (M1 := x1.2) rfl ?_
      obtain ⟨x2, hx2, h⟩ := Option.bind_eq_some_iff.mp h
      refine Z_callV8 k_X11_told k_X11_fail rfl rfl (l_11_210) (ci := 11) rfl [vI 3, vI (x1.2 0 15)] [] rfl rfl (Nat.le_of_ble_eq_true rfl) (Nat.le_of_ble_eq_true rfl) (e_X11_fail (d + 4) 3 (x1.2 0 15) x1.2 _ hx2) ?_
      refine Z_mask [false, false, false, true] (lo0 := [none, none, none, some (vI x1.1)]) rfl ?_
      exact e_X11_told_47 d x1.1 x2 _ _ h
  · replace h := of_neg hc h
    refine Z_blk k_X11_told 1 (pc' := 26) (lo' := [some (vR 0 21 0), some (vI a1), some (vI a2), none]) (st' := [vI 0]) (M1 := M) rfl ?_
    cases h
    exact Z_ret ⟨Or.inl rfl, _, rfl⟩ rfl
def f_X11_told (a1 : Int) (a2 : Int) (M : AM) : Option (Int × AM) := if ¬ M 0 12 = 0 then f_X11_told_18 a1 a2 M else ((f_X11_isName M).bind fun x1 => if ¬ x1.1 = 0 then f_X11_told_18 a1 a2 x1.2 else ((f_X11_amiss x1.2).bind fun x2 => f_X11_told_18 a1 a2 x2))
theorem e_X11_told {Y : List (Nat × Nat)} (d : Nat) (a1 : Int) (a2 : Int) (M : AM) (x : Int) (N : AM) (h : f_X11_told a1 a2 M = some (x, N)) : Ev Y (d + 5) m_X11_told 0 [some (vR 0 21 0), some (vI a1), some (vI a2), none] [] M (some (vI x)) N := by
  unfold f_X11_told at h
  refine Z_blk k_X11_told 2 (pc' := 4) (lo' := [some (vR 0 21 0), some (vI a1), some (vI a2), none]) (st' := [vI (M 0 12)]) (M1 := M) rfl ?_
  refine Z_if k_X11_told rfl 18 rfl (fun hc => ?_) (fun hc => ?_)
  · replace h := of_pos hc h
    refine Z_mask [true, true, true, false] (lo0 := [some (vR 0 21 0), some (vI a1), some (vI a2), none]) rfl ?_
    exact e_X11_told_18 d a1 a2 M _ _ h
  · replace h := of_neg hc h
    refine Z_blk k_X11_told 1 (pc' := 8) (lo' := [some (vR 0 21 0), some (vI a1), some (vI a2), none]) (st' := [vR 0 21 0]) (M1 := M) rfl ?_
    obtain ⟨x1, hx1, h⟩ := Option.bind_eq_some_iff.mp h
    refine Z_callV8 k_X11_told k_X11_isName rfl rfl (l_11_236) (ci := 11) rfl [] [] rfl rfl (Nat.le_of_ble_eq_true rfl) (Nat.le_of_ble_eq_true rfl) (e_X11_isName (d + 0) M _ _ hx1) ?_
    refine Z_if k_X11_told rfl 18 rfl (fun hc => ?_) (fun hc => ?_)
    · replace h := of_pos hc h
      refine Z_mask [true, true, true, false] (lo0 := [some (vR 0 21 0), some (vI a1), some (vI a2), none]) rfl ?_
      exact e_X11_told_18 d a1 a2 x1.2 _ _ h
    · replace h := of_neg hc h
      refine Z_blk k_X11_told 1 (pc' := 15) (lo' := [some (vR 0 21 0), some (vI a1), some (vI a2), none]) (st' := [vR 0 21 0]) (M1 := x1.2) rfl ?_
      obtain ⟨x2, hx2, h⟩ := Option.bind_eq_some_iff.mp h
      refine Z_callV8 k_X11_told k_X11_amiss rfl rfl (l_11_217) (ci := 11) rfl [] [] rfl rfl (Nat.le_of_ble_eq_true rfl) (Nat.le_of_ble_eq_true rfl) (e_X11_amiss (d + 3) x1.2 _ hx2) ?_
      refine Z_mask [true, true, true, false] (lo0 := [some (vR 0 21 0), some (vI a1), some (vI a2), none]) rfl ?_
      exact e_X11_told_18 d a1 a2 x2 _ _ h
theorem l_11_245 : zhas 7109 (Jvm.Cond.methodLink "BellPullHouseModel" 245 yX11_told) = true := by decide +kernel
def f_X11_readTold (a1 : Int) (a2 : Int) (M : AM) : Option (Int × AM) := (f_X11_told a1 a2 M).bind fun x1 => (f_X11_must 1 x1.2).bind fun x2 => some (x1.1, x2)
theorem e_X11_readTold {Y : List (Nat × Nat)} (d : Nat) (a1 : Int) (a2 : Int) (M : AM) (x : Int) (N : AM) (h : f_X11_readTold a1 a2 M = some (x, N)) : Ev Y (d + 6) m_X11_readTold 0 [some (vR 0 21 0), some (vI a1), some (vI a2), none] [] M (some (vI x)) N := by
  unfold f_X11_readTold at h
  refine Z_blk k_X11_readTold 3 (pc' := 3) (lo' := [some (vR 0 21 0), some (vI a1), some (vI a2), none]) (st' := [vI a2, vI a1, vR 0 21 0]) (M1 := M) rfl ?_
  obtain ⟨x1, hx1, h⟩ := Option.bind_eq_some_iff.mp h
  refine Z_callV8 k_X11_readTold k_X11_told rfl rfl (l_11_245) (ci := 11) rfl [vI a1, vI a2] [] rfl rfl (Nat.le_of_ble_eq_true rfl) (Nat.le_of_ble_eq_true rfl) (e_X11_told (d + 0) a1 a2 M _ _ hx1) ?_
  refine Z_blk k_X11_readTold 3 (pc' := 9) (lo' := [some (vR 0 21 0), some (vI a1), some (vI a2), some (vI x1.1)]) (st' := [vI 1, vR 0 21 0]) (M1 := x1.2) rfl ?_
  obtain ⟨x2, hx2, h⟩ := Option.bind_eq_some_iff.mp h
  refine Z_callV8 k_X11_readTold k_X11_must rfl rfl (l_11_220) (ci := 11) rfl [vI 1] [] rfl rfl (Nat.le_of_ble_eq_true rfl) (Nat.le_of_ble_eq_true rfl) (e_X11_must (d + 3) 1 x1.2 _ hx2) ?_
  refine Z_blk k_X11_readTold 1 (pc' := 13) (lo' := [some (vR 0 21 0), some (vI a1), some (vI a2), some (vI x1.1)]) (st' := [vI x1.1]) (M1 := x2) rfl ?_
  cases h
  exact Z_ret ⟨Or.inl rfl, _, rfl⟩ rfl
def f_X11_readOnce_20 (a1 : Int) (a2 : Int) (a3 : Int) (M : AM) : Option (AM) := if M 0 12 ≤ 0 then (zlet (am_upd M 0 25 (o_or (M 0 25) (o_shl 1 a1))) fun M1 => (f_X11_advance M1).bind fun x2 => (f_X11_count a2 a3 x2).bind fun x3 => if 0 ≤ o_add 1420 a1 ∧ o_add 1420 a1 < 1775 then (zlet (am_upd x3.2 5 (Int.toNat (o_add 1420 a1)) x3.1) fun M5 => some M5) else none) else some M
theorem e_X11_readOnce_20 {Y : List (Nat × Nat)} (d : Nat) (a1 : Int) (a2 : Int) (a3 : Int) (M : AM) (N : AM) (h : f_X11_readOnce_20 a1 a2 a3 M = some N) : Ev Y (d + 3) m_X11_readOnce 20 [some (vR 0 21 0), some (vI a1), some (vI a2), some (vI a3)] [] M none N := by
  unfold f_X11_readOnce_20 at h
  refine Z_blk k_X11_readOnce 2 (pc' := 24) (lo' := [some (vR 0 21 0), some (vI a1), some (vI a2), some (vI a3)]) (st' := [vI (M 0 12)]) (M1 := M) rfl ?_
  refine Z_if k_X11_readOnce rfl 28 rfl (fun hc => ?_) (fun hc => ?_)
  · replace h := of_pos hc h
    obtain ⟨M1, eM1, h⟩ := of_zlet h
    refine Z_blk k_X11_readOnce 8 (pc' := 40) (lo' := [some (vR 0 21 0), some (vI a1), some (vI a2), some (vI a3)]) (st' := []) (M1 := M1) (by rw [eM1]; rfl) ?_
    refine Z_blk k_X11_readOnce 1 (pc' := 41) (lo' := [some (vR 0 21 0), some (vI a1), some (vI a2), some (vI a3)]) (st' := [vR 0 21 0]) (M1 := M1) rfl ?_
    obtain ⟨x2, hx2, h⟩ := Option.bind_eq_some_iff.mp h
    refine Z_callV8 k_X11_readOnce k_X11_advance rfl rfl (l_11_214) (ci := 11) rfl [] [] rfl rfl (Nat.le_of_ble_eq_true rfl) (Nat.le_of_ble_eq_true rfl) (e_X11_advance (d + 1) M1 _ hx2) ?_
    refine Z_blk k_X11_readOnce 8 (pc' := 56) (lo' := [some (vR 0 21 0), some (vI a1), some (vI a2), some (vI a3)]) (st' := [vI a3, vI a2, vR 0 21 0, vI (o_add 1420 a1), vR 5 0 1775]) (M1 := x2) rfl ?_
    obtain ⟨x3, hx3, h⟩ := Option.bind_eq_some_iff.mp h
    refine Z_callV8 k_X11_readOnce k_X11_count rfl rfl (l_11_224) (ci := 11) rfl [vI a2, vI a3] [vI (o_add 1420 a1), vR 5 0 1775] rfl rfl (Nat.le_of_ble_eq_true rfl) (Nat.le_of_ble_eq_true rfl) (e_X11_count (d + 0) a2 a3 x2 _ _ hx3) ?_
    obtain ⟨hc4, h⟩ := of_grd h
    obtain ⟨M5, eM5, h⟩ := of_zlet h
    refine Z_one k_X11_readOnce rfl (pc' := 60) (lo' := [some (vR 0 21 0), some (vI a1), some (vI a2), some (vI a3)]) (st' := []) (M1 := M5) (by rw [eM5]; exact if_pos hc4) ?_
    cases h
    exact Z_ret ⟨rfl, _, rfl⟩ rfl
  · replace h := of_neg hc h
    cases h
    exact Z_ret ⟨rfl, _, rfl⟩ rfl
def f_X11_readOnce (a1 : Int) (a2 : Int) (a3 : Int) (M : AM) : Option (AM) := (f_X11_has (M 0 25) a1 M).bind fun x1 => if x1.1 = 0 then f_X11_readOnce_20 a1 a2 a3 x1.2 else ((f_X11_fail 5 (x1.2 0 15) x1.2).bind fun x2 => f_X11_readOnce_20 a1 a2 a3 x2)
theorem e_X11_readOnce {Y : List (Nat × Nat)} (d : Nat) (a1 : Int) (a2 : Int) (a3 : Int) (M : AM) (N : AM) (h : f_X11_readOnce a1 a2 a3 M = some N) : Ev Y (d + 3) m_X11_readOnce 0 [some (vR 0 21 0), some (vI a1), some (vI a2), some (vI a3)] [] M none N := by
  unfold f_X11_readOnce at h
  refine Z_blk k_X11_readOnce 3 (pc' := 5) (lo' := [some (vR 0 21 0), some (vI a1), some (vI a2), some (vI a3)]) (st' := [vI a1, vI (M 0 25)]) (M1 := M) rfl ?_
  obtain ⟨x1, hx1, h⟩ := Option.bind_eq_some_iff.mp h
  refine Z_callS8 k_X11_readOnce k_X11_has rfl rfl (l_11_108) [vI (M 0 25), vI a1] [] rfl rfl (Nat.le_of_ble_eq_true rfl) (Nat.le_of_ble_eq_true rfl) (e_X11_has (d + 2) (M 0 25) a1 M _ _ hx1) ?_
  refine Z_if k_X11_readOnce rfl 20 rfl (fun hc => ?_) (fun hc => ?_)
  · replace h := of_pos hc h
    refine Z_mask [true, true, true, true] (lo0 := [some (vR 0 21 0), some (vI a1), some (vI a2), some (vI a3)]) rfl ?_
    exact e_X11_readOnce_20 d a1 a2 a3 x1.2 _ h
  · replace h := of_neg hc h
    refine Z_blk k_X11_readOnce 4 (pc' := 17) (lo' := [some (vR 0 21 0), some (vI a1), some (vI a2), some (vI a3)]) (st' := [vI (x1.2 0 15), vI 5, vR 0 21 0]) (M1 := x1.2) rfl ?_
    obtain ⟨x2, hx2, h⟩ := Option.bind_eq_some_iff.mp h
    refine Z_callV8 k_X11_readOnce k_X11_fail rfl rfl (l_11_210) (ci := 11) rfl [vI 5, vI (x1.2 0 15)] [] rfl rfl (Nat.le_of_ble_eq_true rfl) (Nat.le_of_ble_eq_true rfl) (e_X11_fail (d + 2) 5 (x1.2 0 15) x1.2 _ hx2) ?_
    refine Z_mask [true, true, true, true] (lo0 := [some (vR 0 21 0), some (vI a1), some (vI a2), some (vI a3)]) rfl ?_
    exact e_X11_readOnce_20 d a1 a2 a3 x2 _ h
theorem l_11_251 : zhas 7034 (Jvm.Cond.methodLink "BellPullHouseModel" 251 yX11_readNew) = true := by decide +kernel
def f_X11_readRoom (M : AM) : Option (AM) := (f_X11_readNew 0 8 M).bind fun x1 => if ¬ x1.2 0 12 = 0 then some x1.2 else (zlet (am_upd x1.2 5 (Int.toNat 1420) (o_add (x1.2 5 (Int.toNat 1420)) 1)) fun M2 => some M2)
theorem e_X11_readRoom {Y : List (Nat × Nat)} (d : Nat) (M : AM) (N : AM) (h : f_X11_readRoom M = some N) : Ev Y (d + 6) m_X11_readRoom 0 [some (vR 0 21 0)] [] M none N := by
  unfold f_X11_readRoom at h
  refine Z_blk k_X11_readRoom 3 (pc' := 4) (lo' := [some (vR 0 21 0)]) (st' := [vI 8, vI 0, vR 0 21 0]) (M1 := M) rfl ?_
  obtain ⟨x1, hx1, h⟩ := Option.bind_eq_some_iff.mp h
  refine Z_callV8 k_X11_readRoom k_X11_readNew rfl rfl (l_11_251) (ci := 11) rfl [vI 0, vI 8] [] rfl rfl (Nat.le_of_ble_eq_true rfl) (Nat.le_of_ble_eq_true rfl) (e_X11_readNew (d + 0) 0 8 M _ _ hx1) ?_
  refine Z_blk k_X11_readRoom 3 (pc' := 12) (lo' := [some (vR 0 21 0)]) (st' := [vI (x1.2 0 12)]) (M1 := x1.2) rfl ?_
  refine Z_if k_X11_readRoom rfl 27 rfl (fun hc => ?_) (fun hc => ?_)
  · replace h := of_pos hc h
    cases h
    exact Z_ret ⟨rfl, _, rfl⟩ rfl
  · replace h := of_neg hc h
    refine Z_blk k_X11_readRoom 4 (pc' := 23) (lo' := [some (vR 0 21 0)]) (st' := [vI 1420, vR 5 0 1775, vI 1420, vR 5 0 1775]) (M1 := x1.2) rfl ?_
    refine Z_one k_X11_readRoom rfl (pc' := 24) (lo' := [some (vR 0 21 0)]) (st' := [vI (x1.2 5 (Int.toNat 1420)), vI 1420, vR 5 0 1775]) (M1 := x1.2) (rfl) ?_
    refine Z_blk k_X11_readRoom 2 (pc' := 26) (lo' := [some (vR 0 21 0)]) (st' := [vI (o_add (x1.2 5 (Int.toNat 1420)) 1), vI 1420, vR 5 0 1775]) (M1 := x1.2) rfl ?_
    obtain ⟨M2, eM2, h⟩ := of_zlet h
    refine Z_one k_X11_readRoom rfl (pc' := 27) (lo' := [some (vR 0 21 0)]) (st' := []) (M1 := M2) (by rw [eM2]; exact rfl) ?_
    cases h
    exact Z_ret ⟨rfl, _, rfl⟩ rfl
def f_X11_strings (a1 : Int) (a2 : Int) (a3 : Int) (a4 : Int) (a5 : Int) (M : AM) : Option (AM) := if 0 ≤ o_add (o_add (o_mul 355 a1) 7) a2 ∧ o_add (o_add (o_mul 355 a1) 7) a2 < 1775 then (zlet (am_upd M 5 (Int.toNat (o_add (o_add (o_mul 355 a1) 7) a2)) a3) fun M2 => if 0 ≤ o_add (o_add (o_mul 355 a1) 17) a2 ∧ o_add (o_add (o_mul 355 a1) 17) a2 < 1775 then (zlet (am_upd M2 5 (Int.toNat (o_add (o_add (o_mul 355 a1) 17) a2)) a4) fun M4 => if 0 ≤ o_add (o_add (o_mul 355 a1) 27) a2 ∧ o_add (o_add (o_mul 355 a1) 27) a2 < 1775 then (zlet (am_upd M4 5 (Int.toNat (o_add (o_add (o_mul 355 a1) 27) a2)) a5) fun M6 => if 0 ≤ o_add (o_add (o_mul 355 a1) 37) a2 ∧ o_add (o_add (o_mul 355 a1) 37) a2 < 1775 then (zlet (am_upd M6 5 (Int.toNat (o_add (o_add (o_mul 355 a1) 37) a2)) 1) fun M8 => if 0 ≤ o_add (o_mul 355 a1) 1 ∧ o_add (o_mul 355 a1) 1 < 1775 then (zlet (am_upd M8 5 (Int.toNat (o_add (o_mul 355 a1) 1)) (o_add a2 1)) fun M10 => some M10) else none) else none) else none) else none) else none
theorem e_X11_strings {Y : List (Nat × Nat)} (d : Nat) (a1 : Int) (a2 : Int) (a3 : Int) (a4 : Int) (a5 : Int) (M : AM) (N : AM) (h : f_X11_strings a1 a2 a3 a4 a5 M = some N) : Ev Y (d + 0) m_X11_strings 0 [some (vR 0 21 0), some (vI a1), some (vI a2), some (vI a3), some (vI a4), some (vI a5), none] [] M none N := by
  unfold f_X11_strings at h
  refine Z_blk k_X11_strings 12 (pc' := 19) (lo' := [some (vR 0 21 0), some (vI a1), some (vI a2), some (vI a3), some (vI a4), some (vI a5), some (vI (o_mul 355 a1))]) (st' := [vI a3, vI (o_add (o_add (o_mul 355 a1) 7) a2), vR 5 0 1775]) (M1 := M) rfl ?_
  obtain ⟨hc1, h⟩ := of_grd h
  obtain ⟨M2, eM2, h⟩ := of_zlet h
  refine Z_one k_X11_strings rfl (pc' := 20) (lo' := [some (vR 0 21 0), some (vI a1), some (vI a2), some (vI a3), some (vI a4), some (vI a5), some (vI (o_mul 355 a1))]) (st' := []) (M1 := M2) (by rw [eM2]; exact if_pos hc1) ?_
  refine Z_blk k_X11_strings 8 (pc' := 33) (lo' := [some (vR 0 21 0), some (vI a1), some (vI a2), some (vI a3), some (vI a4), some (vI a5), some (vI (o_mul 355 a1))]) (st' := [vI a4, vI (o_add (o_add (o_mul 355 a1) 17) a2), vR 5 0 1775]) (M1 := M2) rfl ?_
  obtain ⟨hc3, h⟩ := of_grd h
  obtain ⟨M4, eM4, h⟩ := of_zlet h
  refine Z_one k_X11_strings rfl (pc' := 34) (lo' := [some (vR 0 21 0), some (vI a1), some (vI a2), some (vI a3), some (vI a4), some (vI a5), some (vI (o_mul 355 a1))]) (st' := []) (M1 := M4) (by rw [eM4]; exact if_pos hc3) ?_
  refine Z_blk k_X11_strings 8 (pc' := 47) (lo' := [some (vR 0 21 0), some (vI a1), some (vI a2), some (vI a3), some (vI a4), some (vI a5), some (vI (o_mul 355 a1))]) (st' := [vI a5, vI (o_add (o_add (o_mul 355 a1) 27) a2), vR 5 0 1775]) (M1 := M4) rfl ?_
  obtain ⟨hc5, h⟩ := of_grd h
  obtain ⟨M6, eM6, h⟩ := of_zlet h
  refine Z_one k_X11_strings rfl (pc' := 48) (lo' := [some (vR 0 21 0), some (vI a1), some (vI a2), some (vI a3), some (vI a4), some (vI a5), some (vI (o_mul 355 a1))]) (st' := []) (M1 := M6) (by rw [eM6]; exact if_pos hc5) ?_
  refine Z_blk k_X11_strings 8 (pc' := 60) (lo' := [some (vR 0 21 0), some (vI a1), some (vI a2), some (vI a3), some (vI a4), some (vI a5), some (vI (o_mul 355 a1))]) (st' := [vI 1, vI (o_add (o_add (o_mul 355 a1) 37) a2), vR 5 0 1775]) (M1 := M6) rfl ?_
  obtain ⟨hc7, h⟩ := of_grd h
  obtain ⟨M8, eM8, h⟩ := of_zlet h
  refine Z_one k_X11_strings rfl (pc' := 61) (lo' := [some (vR 0 21 0), some (vI a1), some (vI a2), some (vI a3), some (vI a4), some (vI a5), some (vI (o_mul 355 a1))]) (st' := []) (M1 := M8) (by rw [eM8]; exact if_pos hc7) ?_
  refine Z_blk k_X11_strings 8 (pc' := 72) (lo' := [some (vR 0 21 0), some (vI a1), some (vI a2), some (vI a3), some (vI a4), some (vI a5), some (vI (o_mul 355 a1))]) (st' := [vI (o_add a2 1), vI (o_add (o_mul 355 a1) 1), vR 5 0 1775]) (M1 := M8) rfl ?_
  obtain ⟨hc9, h⟩ := of_grd h
  obtain ⟨M10, eM10, h⟩ := of_zlet h
  refine Z_one k_X11_strings rfl (pc' := 73) (lo' := [some (vR 0 21 0), some (vI a1), some (vI a2), some (vI a3), some (vI a4), some (vI a5), some (vI (o_mul 355 a1))]) (st' := []) (M1 := M10) (by rw [eM10]; exact if_pos hc9) ?_
  cases h
  exact Z_ret ⟨rfl, _, rfl⟩ rfl
theorem l_11_254 : zhas 7105 (Jvm.Cond.methodLink "BellPullHouseModel" 254 yX11_readTold) = true := by decide +kernel
theorem l_11_257 : zhas 7114 (Jvm.Cond.methodLink "BellPullHouseModel" 257 yX11_perhaps) = true := by decide +kernel
theorem l_11_261 : zhas 7118 (Jvm.Cond.methodLink "BellPullHouseModel" 261 yX11_strings) = true := by decide +kernel
def f_X11_readWire_86 (a1 : Int) (a2 : Int) (a3 : Int) (s0 : Int) (M : AM) : Option (AM) := if ¬ M 0 12 = 0 then some M else ((f_X11_strings 4 a1 a2 a3 s0 M).bind fun x1 => some x1)
theorem e_X11_readWire_86 {Y : List (Nat × Nat)} (d : Nat) (a1 : Int) (a2 : Int) (a3 : Int) (s0 : Int) (M : AM) (N : AM) (h : f_X11_readWire_86 a1 a2 a3 s0 M = some N) : Ev Y (d + 7) m_X11_readWire 86 [some (vR 0 21 0), some (vI a1), some (vI a2), some (vI a3), none] [vI s0] M none N := by
  unfold f_X11_readWire_86 at h
  refine Z_blk k_X11_readWire 3 (pc' := 92) (lo' := [some (vR 0 21 0), some (vI a1), some (vI a2), some (vI a3), some (vI s0)]) (st' := [vI (M 0 12)]) (M1 := M) rfl ?_
  refine Z_if k_X11_readWire rfl 105 rfl (fun hc => ?_) (fun hc => ?_)
  · replace h := of_pos hc h
    cases h
    exact Z_ret ⟨rfl, _, rfl⟩ rfl
  · replace h := of_neg hc h
    refine Z_blk k_X11_readWire 6 (pc' := 102) (lo' := [some (vR 0 21 0), some (vI a1), some (vI a2), some (vI a3), some (vI s0)]) (st' := [vI s0, vI a3, vI a2, vI a1, vI 4, vR 0 21 0]) (M1 := M) rfl ?_
    obtain ⟨x1, hx1, h⟩ := Option.bind_eq_some_iff.mp h
    refine Z_callV8 k_X11_readWire k_X11_strings rfl rfl (l_11_261) (ci := 11) rfl [vI 4, vI a1, vI a2, vI a3, vI s0] [] rfl rfl (Nat.le_of_ble_eq_true rfl) (Nat.le_of_ble_eq_true rfl) (e_X11_strings (d + 6) 4 a1 a2 a3 s0 M _ hx1) ?_
    cases h
    exact Z_ret ⟨rfl, _, rfl⟩ rfl
def f_X11_readWire_59 (a1 : Int) (a2 : Int) (a3 : Int) (M : AM) : Option (AM) := (f_X11_must 1 M).bind fun x1 => (f_X11_isSlack x1).bind fun x2 => (f_X11_perhaps x2.1 x2.2).bind fun x3 => if x3.1 = 0 then f_X11_readWire_86 a1 a2 a3 0 x3.2 else ((f_X11_count 0 9 x3.2).bind fun x4 => f_X11_readWire_86 a1 a2 a3 x4.1 x4.2)
theorem e_X11_readWire_59 {Y : List (Nat × Nat)} (d : Nat) (a1 : Int) (a2 : Int) (a3 : Int) (M : AM) (N : AM) (h : f_X11_readWire_59 a1 a2 a3 M = some N) : Ev Y (d + 7) m_X11_readWire 59 [some (vR 0 21 0), some (vI a1), some (vI a2), some (vI a3), none] [] M none N := by
  unfold f_X11_readWire_59 at h
  refine Z_blk k_X11_readWire 2 (pc' := 61) (lo' := [some (vR 0 21 0), some (vI a1), some (vI a2), some (vI a3), none]) (st' := [vI 1, vR 0 21 0]) (M1 := M) rfl ?_
  obtain ⟨x1, hx1, h⟩ := Option.bind_eq_some_iff.mp h
  refine Z_callV8 k_X11_readWire k_X11_must rfl rfl (l_11_220) (ci := 11) rfl [vI 1] [] rfl rfl (Nat.le_of_ble_eq_true rfl) (Nat.le_of_ble_eq_true rfl) (e_X11_must (d + 4) 1 M _ hx1) ?_
  refine Z_blk k_X11_readWire 2 (pc' := 66) (lo' := [some (vR 0 21 0), some (vI a1), some (vI a2), some (vI a3), none]) (st' := [vR 0 21 0, vR 0 21 0]) (M1 := x1) rfl ?_
  obtain ⟨x2, hx2, h⟩ := Option.bind_eq_some_iff.mp h
  refine Z_callV8 k_X11_readWire k_X11_isSlack rfl rfl (l_11_179) (ci := 11) rfl [] [vR 0 21 0] rfl rfl (Nat.le_of_ble_eq_true rfl) (Nat.le_of_ble_eq_true rfl) (e_X11_isSlack (d + 5) x1 _ _ hx2) ?_
  obtain ⟨x3, hx3, h⟩ := Option.bind_eq_some_iff.mp h
  refine Z_callV8 k_X11_readWire k_X11_perhaps rfl rfl (l_11_257) (ci := 11) rfl [vI x2.1] [] rfl rfl (Nat.le_of_ble_eq_true rfl) (Nat.le_of_ble_eq_true rfl) (e_X11_perhaps (d + 4) x2.1 x2.2 _ _ hx3) ?_
  refine Z_if k_X11_readWire rfl 85 rfl (fun hc => ?_) (fun hc => ?_)
  · replace h := of_pos hc h
    refine Z_blk k_X11_readWire 1 (pc' := 86) (lo' := [some (vR 0 21 0), some (vI a1), some (vI a2), some (vI a3), none]) (st' := [vI 0]) (M1 := x3.2) rfl ?_
    refine Z_mask [true, true, true, true, false] (lo0 := [some (vR 0 21 0), some (vI a1), some (vI a2), some (vI a3), none]) rfl ?_
    exact e_X11_readWire_86 d a1 a2 a3 0 x3.2 _ h
  · replace h := of_neg hc h
    refine Z_blk k_X11_readWire 3 (pc' := 79) (lo' := [some (vR 0 21 0), some (vI a1), some (vI a2), some (vI a3), none]) (st' := [vI 9, vI 0, vR 0 21 0]) (M1 := x3.2) rfl ?_
    obtain ⟨x4, hx4, h⟩ := Option.bind_eq_some_iff.mp h
    refine Z_callV8 k_X11_readWire k_X11_count rfl rfl (l_11_224) (ci := 11) rfl [vI 0, vI 9] [] rfl rfl (Nat.le_of_ble_eq_true rfl) (Nat.le_of_ble_eq_true rfl) (e_X11_count (d + 4) 0 9 x3.2 _ _ hx4) ?_
    refine Z_blk k_X11_readWire 1 (pc' := 86) (lo' := [some (vR 0 21 0), some (vI a1), some (vI a2), some (vI a3), none]) (st' := [vI x4.1]) (M1 := x4.2) rfl ?_
    refine Z_mask [true, true, true, true, false] (lo0 := [some (vR 0 21 0), some (vI a1), some (vI a2), some (vI a3), none]) rfl ?_
    exact e_X11_readWire_86 d a1 a2 a3 x4.1 x4.2 _ h
def f_X11_readWire (M : AM) : Option (AM) := (f_X11_readNew 1 10 M).bind fun x1 => (f_X11_isFrom x1.2).bind fun x2 => (f_X11_must x2.1 x2.2).bind fun x3 => (f_X11_readTold 4 0 x3).bind fun x4 => (f_X11_isTo x4.2).bind fun x5 => (f_X11_must x5.1 x5.2).bind fun x6 => (f_X11_told 4 0 x6).bind fun x7 => if ¬ x7.2 0 12 = 0 then f_X11_readWire_59 x1.1 x4.1 x7.1 x7.2 else (if ¬ x4.1 = x7.1 then f_X11_readWire_59 x1.1 x4.1 x7.1 x7.2 else ((f_X11_fail 5 (x7.2 0 15) x7.2).bind fun x8 => f_X11_readWire_59 x1.1 x4.1 x7.1 x8))
theorem e_X11_readWire {Y : List (Nat × Nat)} (d : Nat) (M : AM) (N : AM) (h : f_X11_readWire M = some N) : Ev Y (d + 7) m_X11_readWire 0 [some (vR 0 21 0), none, none, none, none] [] M none N := by
  unfold f_X11_readWire at h
  refine Z_blk k_X11_readWire 3 (pc' := 4) (lo' := [some (vR 0 21 0), none, none, none, none]) (st' := [vI 10, vI 1, vR 0 21 0]) (M1 := M) rfl ?_
  obtain ⟨x1, hx1, h⟩ := Option.bind_eq_some_iff.mp h
  refine Z_callV8 k_X11_readWire k_X11_readNew rfl rfl (l_11_251) (ci := 11) rfl [vI 1, vI 10] [] rfl rfl (Nat.le_of_ble_eq_true rfl) (Nat.le_of_ble_eq_true rfl) (e_X11_readNew (d + 1) 1 10 M _ _ hx1) ?_
  refine Z_blk k_X11_readWire 3 (pc' := 10) (lo' := [some (vR 0 21 0), some (vI x1.1), none, none, none]) (st' := [vR 0 21 0, vR 0 21 0]) (M1 := x1.2) rfl ?_
  obtain ⟨x2, hx2, h⟩ := Option.bind_eq_some_iff.mp h
  refine Z_callV8 k_X11_readWire k_X11_isFrom rfl rfl (l_11_173) (ci := 11) rfl [] [vR 0 21 0] rfl rfl (Nat.le_of_ble_eq_true rfl) (Nat.le_of_ble_eq_true rfl) (e_X11_isFrom (d + 5) x1.2 _ _ hx2) ?_
  obtain ⟨x3, hx3, h⟩ := Option.bind_eq_some_iff.mp h
  refine Z_callV8 k_X11_readWire k_X11_must rfl rfl (l_11_220) (ci := 11) rfl [vI x2.1] [] rfl rfl (Nat.le_of_ble_eq_true rfl) (Nat.le_of_ble_eq_true rfl) (e_X11_must (d + 4) x2.1 x2.2 _ hx3) ?_
  refine Z_blk k_X11_readWire 3 (pc' := 19) (lo' := [some (vR 0 21 0), some (vI x1.1), none, none, none]) (st' := [vI 0, vI 4, vR 0 21 0]) (M1 := x3) rfl ?_
  obtain ⟨x4, hx4, h⟩ := Option.bind_eq_some_iff.mp h
  refine Z_callV8 k_X11_readWire k_X11_readTold rfl rfl (l_11_254) (ci := 11) rfl [vI 4, vI 0] [] rfl rfl (Nat.le_of_ble_eq_true rfl) (Nat.le_of_ble_eq_true rfl) (e_X11_readTold (d + 0) 4 0 x3 _ _ hx4) ?_
  refine Z_blk k_X11_readWire 3 (pc' := 25) (lo' := [some (vR 0 21 0), some (vI x1.1), some (vI x4.1), none, none]) (st' := [vR 0 21 0, vR 0 21 0]) (M1 := x4.2) rfl ?_
  obtain ⟨x5, hx5, h⟩ := Option.bind_eq_some_iff.mp h
  refine Z_callV8 k_X11_readWire k_X11_isTo rfl rfl (l_11_176) (ci := 11) rfl [] [vR 0 21 0] rfl rfl (Nat.le_of_ble_eq_true rfl) (Nat.le_of_ble_eq_true rfl) (e_X11_isTo (d + 5) x4.2 _ _ hx5) ?_
  obtain ⟨x6, hx6, h⟩ := Option.bind_eq_some_iff.mp h
  refine Z_callV8 k_X11_readWire k_X11_must rfl rfl (l_11_220) (ci := 11) rfl [vI x5.1] [] rfl rfl (Nat.le_of_ble_eq_true rfl) (Nat.le_of_ble_eq_true rfl) (e_X11_must (d + 4) x5.1 x5.2 _ hx6) ?_
  refine Z_blk k_X11_readWire 3 (pc' := 34) (lo' := [some (vR 0 21 0), some (vI x1.1), some (vI x4.1), none, none]) (st' := [vI 0, vI 4, vR 0 21 0]) (M1 := x6) rfl ?_
  obtain ⟨x7, hx7, h⟩ := Option.bind_eq_some_iff.mp h
  refine Z_callV8 k_X11_readWire k_X11_told rfl rfl (l_11_245) (ci := 11) rfl [vI 4, vI 0] [] rfl rfl (Nat.le_of_ble_eq_true rfl) (Nat.le_of_ble_eq_true rfl) (e_X11_told (d + 1) 4 0 x6 _ _ hx7) ?_
  refine Z_blk k_X11_readWire 3 (pc' := 42) (lo' := [some (vR 0 21 0), some (vI x1.1), some (vI x4.1), some (vI x7.1), none]) (st' := [vI (x7.2 0 12)]) (M1 := x7.2) rfl ?_
  refine Z_if k_X11_readWire rfl 59 rfl (fun hc => ?_) (fun hc => ?_)
  · replace h := of_pos hc h
    refine Z_mask [true, true, true, true, false] (lo0 := [some (vR 0 21 0), some (vI x1.1), some (vI x4.1), some (vI x7.1), none]) rfl ?_
    exact e_X11_readWire_59 d x1.1 x4.1 x7.1 x7.2 _ h
  · replace h := of_neg hc h
    refine Z_blk k_X11_readWire 2 (pc' := 47) (lo' := [some (vR 0 21 0), some (vI x1.1), some (vI x4.1), some (vI x7.1), none]) (st' := [vI x7.1, vI x4.1]) (M1 := x7.2) rfl ?_
    refine Z_icmp k_X11_readWire rfl 59 rfl (fun hc => ?_) (fun hc => ?_)
    · replace h := of_pos hc h
      refine Z_mask [true, true, true, true, false] (lo0 := [some (vR 0 21 0), some (vI x1.1), some (vI x4.1), some (vI x7.1), none]) rfl ?_
      exact e_X11_readWire_59 d x1.1 x4.1 x7.1 x7.2 _ h
    · replace h := of_neg hc h
      refine Z_blk k_X11_readWire 4 (pc' := 56) (lo' := [some (vR 0 21 0), some (vI x1.1), some (vI x4.1), some (vI x7.1), none]) (st' := [vI (x7.2 0 15), vI 5, vR 0 21 0]) (M1 := x7.2) rfl ?_
      obtain ⟨x8, hx8, h⟩ := Option.bind_eq_some_iff.mp h
      refine Z_callV8 k_X11_readWire k_X11_fail rfl rfl (l_11_210) (ci := 11) rfl [vI 5, vI (x7.2 0 15)] [] rfl rfl (Nat.le_of_ble_eq_true rfl) (Nat.le_of_ble_eq_true rfl) (e_X11_fail (d + 6) 5 (x7.2 0 15) x7.2 _ hx8) ?_
      refine Z_mask [true, true, true, true, false] (lo0 := [some (vR 0 21 0), some (vI x1.1), some (vI x4.1), some (vI x7.1), none]) rfl ?_
      exact e_X11_readWire_59 d x1.1 x4.1 x7.1 x8 _ h
theorem l_11_265 : zhas 7126 (Jvm.Cond.methodLink "BellPullHouseModel" 265 yX11_behindWord) = true := by decide +kernel
def f_X11_readCouple (M : AM) : Option (AM) := (f_X11_readNew 2 6 M).bind fun x1 => (f_X11_isHe x1.2).bind fun x2 => (f_X11_must x2.1 x2.2).bind fun x3 => (f_X11_readTold 4 0 x3).bind fun x4 => (f_X11_isShe x4.2).bind fun x5 => (f_X11_must x5.1 x5.2).bind fun x6 => (f_X11_readTold 4 0 x6).bind fun x7 => (f_X11_isLove x7.2).bind fun x8 => (f_X11_behindWord x8.1 1 9 x8.2).bind fun x9 => if x9.2 0 12 ≤ 0 then (if 0 ≤ o_add 1467 x1.1 ∧ o_add 1467 x1.1 < 1775 then (zlet (am_upd x9.2 5 (Int.toNat (o_add 1467 x1.1)) x4.1) fun M11 => if 0 ≤ o_add 1473 x1.1 ∧ o_add 1473 x1.1 < 1775 then (zlet (am_upd M11 5 (Int.toNat (o_add 1473 x1.1)) x7.1) fun M13 => if 0 ≤ o_add 1479 x1.1 ∧ o_add 1479 x1.1 < 1775 then (zlet (am_upd M13 5 (Int.toNat (o_add 1479 x1.1)) x9.1) fun M15 => if 0 ≤ o_add 1485 x1.1 ∧ o_add 1485 x1.1 < 1775 then (zlet (am_upd M15 5 (Int.toNat (o_add 1485 x1.1)) 1) fun M17 => zlet (am_upd M17 5 (Int.toNat 1422) (o_add (M17 5 (Int.toNat 1422)) 1)) fun M18 => some M18) else none) else none) else none) else none) else some x9.2
theorem e_X11_readCouple {Y : List (Nat × Nat)} (d : Nat) (M : AM) (N : AM) (h : f_X11_readCouple M = some N) : Ev Y (d + 7) m_X11_readCouple 0 [some (vR 0 21 0), none, none, none, none] [] M none N := by
  unfold f_X11_readCouple at h
  refine Z_blk k_X11_readCouple 3 (pc' := 4) (lo' := [some (vR 0 21 0), none, none, none, none]) (st' := [vI 6, vI 2, vR 0 21 0]) (M1 := M) rfl ?_
  obtain ⟨x1, hx1, h⟩ := Option.bind_eq_some_iff.mp h
  refine Z_callV8 k_X11_readCouple k_X11_readNew rfl rfl (l_11_251) (ci := 11) rfl [vI 2, vI 6] [] rfl rfl (Nat.le_of_ble_eq_true rfl) (Nat.le_of_ble_eq_true rfl) (e_X11_readNew (d + 1) 2 6 M _ _ hx1) ?_
  refine Z_blk k_X11_readCouple 3 (pc' := 10) (lo' := [some (vR 0 21 0), some (vI x1.1), none, none, none]) (st' := [vR 0 21 0, vR 0 21 0]) (M1 := x1.2) rfl ?_
  obtain ⟨x2, hx2, h⟩ := Option.bind_eq_some_iff.mp h
  refine Z_callV8 k_X11_readCouple k_X11_isHe rfl rfl (l_11_185) (ci := 11) rfl [] [vR 0 21 0] rfl rfl (Nat.le_of_ble_eq_true rfl) (Nat.le_of_ble_eq_true rfl) (e_X11_isHe (d + 5) x1.2 _ _ hx2) ?_
  obtain ⟨x3, hx3, h⟩ := Option.bind_eq_some_iff.mp h
  refine Z_callV8 k_X11_readCouple k_X11_must rfl rfl (l_11_220) (ci := 11) rfl [vI x2.1] [] rfl rfl (Nat.le_of_ble_eq_true rfl) (Nat.le_of_ble_eq_true rfl) (e_X11_must (d + 4) x2.1 x2.2 _ hx3) ?_
  refine Z_blk k_X11_readCouple 3 (pc' := 19) (lo' := [some (vR 0 21 0), some (vI x1.1), none, none, none]) (st' := [vI 0, vI 4, vR 0 21 0]) (M1 := x3) rfl ?_
  obtain ⟨x4, hx4, h⟩ := Option.bind_eq_some_iff.mp h
  refine Z_callV8 k_X11_readCouple k_X11_readTold rfl rfl (l_11_254) (ci := 11) rfl [vI 4, vI 0] [] rfl rfl (Nat.le_of_ble_eq_true rfl) (Nat.le_of_ble_eq_true rfl) (e_X11_readTold (d + 0) 4 0 x3 _ _ hx4) ?_
  refine Z_blk k_X11_readCouple 3 (pc' := 25) (lo' := [some (vR 0 21 0), some (vI x1.1), some (vI x4.1), none, none]) (st' := [vR 0 21 0, vR 0 21 0]) (M1 := x4.2) rfl ?_
  obtain ⟨x5, hx5, h⟩ := Option.bind_eq_some_iff.mp h
  refine Z_callV8 k_X11_readCouple k_X11_isShe rfl rfl (l_11_188) (ci := 11) rfl [] [vR 0 21 0] rfl rfl (Nat.le_of_ble_eq_true rfl) (Nat.le_of_ble_eq_true rfl) (e_X11_isShe (d + 5) x4.2 _ _ hx5) ?_
  obtain ⟨x6, hx6, h⟩ := Option.bind_eq_some_iff.mp h
  refine Z_callV8 k_X11_readCouple k_X11_must rfl rfl (l_11_220) (ci := 11) rfl [vI x5.1] [] rfl rfl (Nat.le_of_ble_eq_true rfl) (Nat.le_of_ble_eq_true rfl) (e_X11_must (d + 4) x5.1 x5.2 _ hx6) ?_
  refine Z_blk k_X11_readCouple 3 (pc' := 34) (lo' := [some (vR 0 21 0), some (vI x1.1), some (vI x4.1), none, none]) (st' := [vI 0, vI 4, vR 0 21 0]) (M1 := x6) rfl ?_
  obtain ⟨x7, hx7, h⟩ := Option.bind_eq_some_iff.mp h
  refine Z_callV8 k_X11_readCouple k_X11_readTold rfl rfl (l_11_254) (ci := 11) rfl [vI 4, vI 0] [] rfl rfl (Nat.le_of_ble_eq_true rfl) (Nat.le_of_ble_eq_true rfl) (e_X11_readTold (d + 0) 4 0 x6 _ _ hx7) ?_
  refine Z_blk k_X11_readCouple 3 (pc' := 40) (lo' := [some (vR 0 21 0), some (vI x1.1), some (vI x4.1), some (vI x7.1), none]) (st' := [vR 0 21 0, vR 0 21 0]) (M1 := x7.2) rfl ?_
  obtain ⟨x8, hx8, h⟩ := Option.bind_eq_some_iff.mp h
  refine Z_callV8 k_X11_readCouple k_X11_isLove rfl rfl (l_11_157) (ci := 11) rfl [] [vR 0 21 0] rfl rfl (Nat.le_of_ble_eq_true rfl) (Nat.le_of_ble_eq_true rfl) (e_X11_isLove (d + 5) x7.2 _ _ hx8) ?_
  refine Z_blk k_X11_readCouple 2 (pc' := 46) (lo' := [some (vR 0 21 0), some (vI x1.1), some (vI x4.1), some (vI x7.1), none]) (st' := [vI 9, vI 1, vI x8.1, vR 0 21 0]) (M1 := x8.2) rfl ?_
  obtain ⟨x9, hx9, h⟩ := Option.bind_eq_some_iff.mp h
  refine Z_callV8 k_X11_readCouple k_X11_behindWord rfl rfl (l_11_265) (ci := 11) rfl [vI x8.1, vI 1, vI 9] [] rfl rfl (Nat.le_of_ble_eq_true rfl) (Nat.le_of_ble_eq_true rfl) (e_X11_behindWord (d + 3) x8.1 1 9 x8.2 _ _ hx9) ?_
  refine Z_blk k_X11_readCouple 3 (pc' := 55) (lo' := [some (vR 0 21 0), some (vI x1.1), some (vI x4.1), some (vI x7.1), some (vI x9.1)]) (st' := [vI (x9.2 0 12)]) (M1 := x9.2) rfl ?_
  refine Z_if k_X11_readCouple rfl 59 rfl (fun hc => ?_) (fun hc => ?_)
  · replace h := of_pos hc h
    refine Z_blk k_X11_readCouple 6 (pc' := 69) (lo' := [some (vR 0 21 0), some (vI x1.1), some (vI x4.1), some (vI x7.1), some (vI x9.1)]) (st' := [vI x4.1, vI (o_add 1467 x1.1), vR 5 0 1775]) (M1 := x9.2) rfl ?_
    obtain ⟨hc10, h⟩ := of_grd h
    obtain ⟨M11, eM11, h⟩ := of_zlet h
    refine Z_one k_X11_readCouple rfl (pc' := 70) (lo' := [some (vR 0 21 0), some (vI x1.1), some (vI x4.1), some (vI x7.1), some (vI x9.1)]) (st' := []) (M1 := M11) (by rw [eM11]; exact if_pos hc10) ?_
    refine Z_blk k_X11_readCouple 6 (pc' := 80) (lo' := [some (vR 0 21 0), some (vI x1.1), some (vI x4.1), some (vI x7.1), some (vI x9.1)]) (st' := [vI x7.1, vI (o_add 1473 x1.1), vR 5 0 1775]) (M1 := M11) rfl ?_
    obtain ⟨hc12, h⟩ := of_grd h
    obtain ⟨M13, eM13, h⟩ := of_zlet h
    refine Z_one k_X11_readCouple rfl (pc' := 81) (lo' := [some (vR 0 21 0), some (vI x1.1), some (vI x4.1), some (vI x7.1), some (vI x9.1)]) (st' := []) (M1 := M13) (by rw [eM13]; exact if_pos hc12) ?_
    refine Z_blk k_X11_readCouple 6 (pc' := 92) (lo' := [some (vR 0 21 0), some (vI x1.1), some (vI x4.1), some (vI x7.1), some (vI x9.1)]) (st' := [vI x9.1, vI (o_add 1479 x1.1), vR 5 0 1775]) (M1 := M13) rfl ?_
    obtain ⟨hc14, h⟩ := of_grd h
    obtain ⟨M15, eM15, h⟩ := of_zlet h
    refine Z_one k_X11_readCouple rfl (pc' := 93) (lo' := [some (vR 0 21 0), some (vI x1.1), some (vI x4.1), some (vI x7.1), some (vI x9.1)]) (st' := []) (M1 := M15) (by rw [eM15]; exact if_pos hc14) ?_
    refine Z_blk k_X11_readCouple 6 (pc' := 103) (lo' := [some (vR 0 21 0), some (vI x1.1), some (vI x4.1), some (vI x7.1), some (vI x9.1)]) (st' := [vI 1, vI (o_add 1485 x1.1), vR 5 0 1775]) (M1 := M15) rfl ?_
    obtain ⟨hc16, h⟩ := of_grd h
    obtain ⟨M17, eM17, h⟩ := of_zlet h
    refine Z_one k_X11_readCouple rfl (pc' := 104) (lo' := [some (vR 0 21 0), some (vI x1.1), some (vI x4.1), some (vI x7.1), some (vI x9.1)]) (st' := []) (M1 := M17) (by rw [eM17]; exact if_pos hc16) ?_
    refine Z_blk k_X11_readCouple 4 (pc' := 112) (lo' := [some (vR 0 21 0), some (vI x1.1), some (vI x4.1), some (vI x7.1), some (vI x9.1)]) (st' := [vI 1422, vR 5 0 1775, vI 1422, vR 5 0 1775]) (M1 := M17) rfl ?_
    refine Z_one k_X11_readCouple rfl (pc' := 113) (lo' := [some (vR 0 21 0), some (vI x1.1), some (vI x4.1), some (vI x7.1), some (vI x9.1)]) (st' := [vI (M17 5 (Int.toNat 1422)), vI 1422, vR 5 0 1775]) (M1 := M17) (rfl) ?_
    refine Z_blk k_X11_readCouple 2 (pc' := 115) (lo' := [some (vR 0 21 0), some (vI x1.1), some (vI x4.1), some (vI x7.1), some (vI x9.1)]) (st' := [vI (o_add (M17 5 (Int.toNat 1422)) 1), vI 1422, vR 5 0 1775]) (M1 := M17) rfl ?_
    obtain ⟨M18, eM18, h⟩ := of_zlet h
    refine Z_one k_X11_readCouple rfl (pc' := 116) (lo' := [some (vR 0 21 0), some (vI x1.1), some (vI x4.1), some (vI x7.1), some (vI x9.1)]) (st' := []) (M1 := M18) (by rw [eM18]; exact rfl) ?_
    cases h
    exact Z_ret ⟨rfl, _, rfl⟩ rfl
  · replace h := of_neg hc h
    cases h
    exact Z_ret ⟨rfl, _, rfl⟩ rfl
theorem l_11_269 : zhas 7000 (Jvm.Cond.methodLink "BellPullHouseModel" 269 yX11_readOnce) = true := by decide +kernel
theorem l_11_273 : zhas 7030 (Jvm.Cond.methodLink "BellPullHouseModel" 273 yX11_readRoom) = true := by decide +kernel
theorem l_11_276 : zhas 7097 (Jvm.Cond.methodLink "BellPullHouseModel" 276 yX11_readWire) = true := by decide +kernel
theorem l_11_279 : zhas 7122 (Jvm.Cond.methodLink "BellPullHouseModel" 279 yX11_readCouple) = true := by decide +kernel
def f_X11_readPart (M : AM) : Option (AM) := (f_X11_isPower M).bind fun x1 => if x1.1 = 0 then ((f_X11_isOdds x1.2).bind fun x2 => if x2.1 = 0 then ((f_X11_isRoom x2.2).bind fun x3 => if x3.1 = 0 then ((f_X11_isWire x3.2).bind fun x4 => if x4.1 = 0 then ((f_X11_isCouple x4.2).bind fun x5 => if x5.1 = 0 then ((f_X11_amiss x5.2).bind fun x6 => some x6) else ((f_X11_readCouple x5.2).bind fun x7 => some x7)) else ((f_X11_readWire x4.2).bind fun x8 => some x8)) else ((f_X11_readRoom x3.2).bind fun x9 => some x9)) else ((f_X11_readOnce 4 0 16 x2.2).bind fun x10 => some x10)) else ((f_X11_readOnce 3 1 99 x1.2).bind fun x11 => some x11)
theorem e_X11_readPart {Y : List (Nat × Nat)} (d : Nat) (M : AM) (N : AM) (h : f_X11_readPart M = some N) : Ev Y (d + 8) m_X11_readPart 0 [some (vR 0 21 0)] [] M none N := by
  unfold f_X11_readPart at h
  refine Z_blk k_X11_readPart 1 (pc' := 1) (lo' := [some (vR 0 21 0)]) (st' := [vR 0 21 0]) (M1 := M) rfl ?_
  obtain ⟨x1, hx1, h⟩ := Option.bind_eq_some_iff.mp h
  refine Z_callV8 k_X11_readPart k_X11_isPower rfl rfl (l_11_161) (ci := 11) rfl [] [] rfl rfl (Nat.le_of_ble_eq_true rfl) (Nat.le_of_ble_eq_true rfl) (e_X11_isPower (d + 6) M _ _ hx1) ?_
  refine Z_if k_X11_readPart rfl 18 rfl (fun hc => ?_) (fun hc => ?_)
  · replace h := of_pos hc h
    refine Z_blk k_X11_readPart 1 (pc' := 19) (lo' := [some (vR 0 21 0)]) (st' := [vR 0 21 0]) (M1 := x1.2) rfl ?_
    obtain ⟨x2, hx2, h⟩ := Option.bind_eq_some_iff.mp h
    refine Z_callV8 k_X11_readPart k_X11_isOdds rfl rfl (l_11_164) (ci := 11) rfl [] [] rfl rfl (Nat.le_of_ble_eq_true rfl) (Nat.le_of_ble_eq_true rfl) (e_X11_isOdds (d + 6) x1.2 _ _ hx2) ?_
    refine Z_if k_X11_readPart rfl 36 rfl (fun hc => ?_) (fun hc => ?_)
    · replace h := of_pos hc h
      refine Z_blk k_X11_readPart 1 (pc' := 37) (lo' := [some (vR 0 21 0)]) (st' := [vR 0 21 0]) (M1 := x2.2) rfl ?_
      obtain ⟨x3, hx3, h⟩ := Option.bind_eq_some_iff.mp h
      refine Z_callV8 k_X11_readPart k_X11_isRoom rfl rfl (l_11_167) (ci := 11) rfl [] [] rfl rfl (Nat.le_of_ble_eq_true rfl) (Nat.le_of_ble_eq_true rfl) (e_X11_isRoom (d + 6) x2.2 _ _ hx3) ?_
      refine Z_if k_X11_readPart rfl 50 rfl (fun hc => ?_) (fun hc => ?_)
      · replace h := of_pos hc h
        refine Z_blk k_X11_readPart 1 (pc' := 51) (lo' := [some (vR 0 21 0)]) (st' := [vR 0 21 0]) (M1 := x3.2) rfl ?_
        obtain ⟨x4, hx4, h⟩ := Option.bind_eq_some_iff.mp h
        refine Z_callV8 k_X11_readPart k_X11_isWire rfl rfl (l_11_170) (ci := 11) rfl [] [] rfl rfl (Nat.le_of_ble_eq_true rfl) (Nat.le_of_ble_eq_true rfl) (e_X11_isWire (d + 6) x3.2 _ _ hx4) ?_
        refine Z_if k_X11_readPart rfl 64 rfl (fun hc => ?_) (fun hc => ?_)
        · replace h := of_pos hc h
          refine Z_blk k_X11_readPart 1 (pc' := 65) (lo' := [some (vR 0 21 0)]) (st' := [vR 0 21 0]) (M1 := x4.2) rfl ?_
          obtain ⟨x5, hx5, h⟩ := Option.bind_eq_some_iff.mp h
          refine Z_callV8 k_X11_readPart k_X11_isCouple rfl rfl (l_11_182) (ci := 11) rfl [] [] rfl rfl (Nat.le_of_ble_eq_true rfl) (Nat.le_of_ble_eq_true rfl) (e_X11_isCouple (d + 6) x4.2 _ _ hx5) ?_
          refine Z_if k_X11_readPart rfl 78 rfl (fun hc => ?_) (fun hc => ?_)
          · replace h := of_pos hc h
            refine Z_blk k_X11_readPart 1 (pc' := 79) (lo' := [some (vR 0 21 0)]) (st' := [vR 0 21 0]) (M1 := x5.2) rfl ?_
            obtain ⟨x6, hx6, h⟩ := Option.bind_eq_some_iff.mp h
            refine Z_callV8 k_X11_readPart k_X11_amiss rfl rfl (l_11_217) (ci := 11) rfl [] [] rfl rfl (Nat.le_of_ble_eq_true rfl) (Nat.le_of_ble_eq_true rfl) (e_X11_amiss (d + 6) x5.2 _ hx6) ?_
            cases h
            exact Z_ret ⟨rfl, _, rfl⟩ rfl
          · replace h := of_neg hc h
            refine Z_blk k_X11_readPart 1 (pc' := 72) (lo' := [some (vR 0 21 0)]) (st' := [vR 0 21 0]) (M1 := x5.2) rfl ?_
            obtain ⟨x7, hx7, h⟩ := Option.bind_eq_some_iff.mp h
            refine Z_callV8 k_X11_readPart k_X11_readCouple rfl rfl (l_11_279) (ci := 11) rfl [] [] rfl rfl (Nat.le_of_ble_eq_true rfl) (Nat.le_of_ble_eq_true rfl) (e_X11_readCouple (d + 0) x5.2 _ hx7) ?_
            refine Z_blk k_X11_readPart 1 (pc' := 82) (lo' := [some (vR 0 21 0)]) (st' := []) (M1 := x7) rfl ?_
            cases h
            exact Z_ret ⟨rfl, _, rfl⟩ rfl
        · replace h := of_neg hc h
          refine Z_blk k_X11_readPart 1 (pc' := 58) (lo' := [some (vR 0 21 0)]) (st' := [vR 0 21 0]) (M1 := x4.2) rfl ?_
          obtain ⟨x8, hx8, h⟩ := Option.bind_eq_some_iff.mp h
          refine Z_callV8 k_X11_readPart k_X11_readWire rfl rfl (l_11_276) (ci := 11) rfl [] [] rfl rfl (Nat.le_of_ble_eq_true rfl) (Nat.le_of_ble_eq_true rfl) (e_X11_readWire (d + 0) x4.2 _ hx8) ?_
          refine Z_blk k_X11_readPart 1 (pc' := 82) (lo' := [some (vR 0 21 0)]) (st' := []) (M1 := x8) rfl ?_
          cases h
          exact Z_ret ⟨rfl, _, rfl⟩ rfl
      · replace h := of_neg hc h
        refine Z_blk k_X11_readPart 1 (pc' := 44) (lo' := [some (vR 0 21 0)]) (st' := [vR 0 21 0]) (M1 := x3.2) rfl ?_
        obtain ⟨x9, hx9, h⟩ := Option.bind_eq_some_iff.mp h
        refine Z_callV8 k_X11_readPart k_X11_readRoom rfl rfl (l_11_273) (ci := 11) rfl [] [] rfl rfl (Nat.le_of_ble_eq_true rfl) (Nat.le_of_ble_eq_true rfl) (e_X11_readRoom (d + 1) x3.2 _ hx9) ?_
        refine Z_blk k_X11_readPart 1 (pc' := 82) (lo' := [some (vR 0 21 0)]) (st' := []) (M1 := x9) rfl ?_
        cases h
        exact Z_ret ⟨rfl, _, rfl⟩ rfl
    · replace h := of_neg hc h
      refine Z_blk k_X11_readPart 4 (pc' := 30) (lo' := [some (vR 0 21 0)]) (st' := [vI 16, vI 0, vI 4, vR 0 21 0]) (M1 := x2.2) rfl ?_
      obtain ⟨x10, hx10, h⟩ := Option.bind_eq_some_iff.mp h
      refine Z_callV8 k_X11_readPart k_X11_readOnce rfl rfl (l_11_269) (ci := 11) rfl [vI 4, vI 0, vI 16] [] rfl rfl (Nat.le_of_ble_eq_true rfl) (Nat.le_of_ble_eq_true rfl) (e_X11_readOnce (d + 4) 4 0 16 x2.2 _ hx10) ?_
      refine Z_blk k_X11_readPart 1 (pc' := 82) (lo' := [some (vR 0 21 0)]) (st' := []) (M1 := x10) rfl ?_
      cases h
      exact Z_ret ⟨rfl, _, rfl⟩ rfl
  · replace h := of_neg hc h
    refine Z_blk k_X11_readPart 4 (pc' := 12) (lo' := [some (vR 0 21 0)]) (st' := [vI 99, vI 1, vI 3, vR 0 21 0]) (M1 := x1.2) rfl ?_
    obtain ⟨x11, hx11, h⟩ := Option.bind_eq_some_iff.mp h
    refine Z_callV8 k_X11_readPart k_X11_readOnce rfl rfl (l_11_269) (ci := 11) rfl [vI 3, vI 1, vI 99] [] rfl rfl (Nat.le_of_ble_eq_true rfl) (Nat.le_of_ble_eq_true rfl) (e_X11_readOnce (d + 4) 3 1 99 x1.2 _ hx11) ?_
    refine Z_blk k_X11_readPart 1 (pc' := 82) (lo' := [some (vR 0 21 0)]) (st' := []) (M1 := x11) rfl ?_
    cases h
    exact Z_ret ⟨rfl, _, rfl⟩ rfl
def f_X11_copy_41 : Nat → Int → Int → Int → AM → Option (AM)
  | 0, _, _, _, _ => none
  | n + 1, a1, a2, a3, M => if 24 ≤ a3 then some M else (if 0 ≤ o_add (o_mul 24 a1) a3 ∧ o_add (o_mul 24 a1) a3 < 120 then (if 0 ≤ o_add (o_mul 24 a2) a3 ∧ o_add (o_mul 24 a2) a3 < 120 then (zlet (am_upd M 8 (Int.toNat (o_add (o_mul 24 a2) a3)) (M 8 (Int.toNat (o_add (o_mul 24 a1) a3)))) fun M3 => f_X11_copy_41 n a1 a2 (o_add a3 1) M3) else none) else none)
theorem e_X11_copy_41 {Y : List (Nat × Nat)} (d : Nat) : ∀ (n : Nat) (a1 : Int) (a2 : Int) (a3 : Int) (M : AM) (N : AM), f_X11_copy_41 n a1 a2 a3 M = some N → Ev Y (d + 0) m_X11_copy 41 [some (vR 0 21 0), some (vI a1), some (vI a2), some (vI a3)] [] M none N := by
  intro n
  induction n with
  | zero => intro a1 a2 a3 M N h; cases h
  | succ n ih =>
    intro a1 a2 a3 M N h
    simp only [f_X11_copy_41] at h
    refine Z_blk k_X11_copy 2 (pc' := 44) (lo' := [some (vR 0 21 0), some (vI a1), some (vI a2), some (vI a3)]) (st' := [vI 24, vI a3]) (M1 := M) rfl ?_
    refine Z_icmp k_X11_copy rfl 75 rfl (fun hc => ?_) (fun hc => ?_)
    · replace h := of_pos hc h
      cases h
      exact Z_ret ⟨rfl, _, rfl⟩ rfl
    · replace h := of_neg hc h
      refine Z_blk k_X11_copy 14 (pc' := 67) (lo' := [some (vR 0 21 0), some (vI a1), some (vI a2), some (vI a3)]) (st' := [vI (o_add (o_mul 24 a1) a3), vR 8 1 120, vI (o_add (o_mul 24 a2) a3), vR 8 1 120]) (M1 := M) rfl ?_
      obtain ⟨hc1, h⟩ := of_grd h
      refine Z_one k_X11_copy rfl (pc' := 68) (lo' := [some (vR 0 21 0), some (vI a1), some (vI a2), some (vI a3)]) (st' := [vL (M 8 (Int.toNat (o_add (o_mul 24 a1) a3))), vI (o_add (o_mul 24 a2) a3), vR 8 1 120]) (M1 := M) (if_pos hc1) ?_
      obtain ⟨hc2, h⟩ := of_grd h
      obtain ⟨M3, eM3, h⟩ := of_zlet h
      refine Z_one k_X11_copy rfl (pc' := 69) (lo' := [some (vR 0 21 0), some (vI a1), some (vI a2), some (vI a3)]) (st' := []) (M1 := M3) (by rw [eM3]; exact if_pos hc2) ?_
      refine Z_blk k_X11_copy 2 (pc' := 41) (lo' := [some (vR 0 21 0), some (vI a1), some (vI a2), some (vI (o_add a3 1))]) (st' := []) (M1 := M3) rfl ?_
      refine Z_mask [true, true, true, true] (lo0 := [some (vR 0 21 0), some (vI a1), some (vI a2), some (vI (o_add a3 1))]) rfl ?_
      exact ih a1 a2 (o_add a3 1) M3 _ h
def f_X11_copy_2 : Nat → Int → Int → Int → AM → Option (AM)
  | 0, _, _, _, _ => none
  | n + 1, a1, a2, a3, M => if 355 ≤ a3 then f_X11_copy_41 zB a1 a2 0 M else (if 0 ≤ o_add (o_mul 355 a1) a3 ∧ o_add (o_mul 355 a1) a3 < 1775 then (if 0 ≤ o_add (o_mul 355 a2) a3 ∧ o_add (o_mul 355 a2) a3 < 1775 then (zlet (am_upd M 5 (Int.toNat (o_add (o_mul 355 a2) a3)) (M 5 (Int.toNat (o_add (o_mul 355 a1) a3)))) fun M3 => f_X11_copy_2 n a1 a2 (o_add a3 1) M3) else none) else none)
theorem e_X11_copy_2 {Y : List (Nat × Nat)} (d : Nat) : ∀ (n : Nat) (a1 : Int) (a2 : Int) (a3 : Int) (M : AM) (N : AM), f_X11_copy_2 n a1 a2 a3 M = some N → Ev Y (d + 0) m_X11_copy 2 [some (vR 0 21 0), some (vI a1), some (vI a2), some (vI a3)] [] M none N := by
  intro n
  induction n with
  | zero => intro a1 a2 a3 M N h; cases h
  | succ n ih =>
    intro a1 a2 a3 M N h
    simp only [f_X11_copy_2] at h
    refine Z_blk k_X11_copy 2 (pc' := 6) (lo' := [some (vR 0 21 0), some (vI a1), some (vI a2), some (vI a3)]) (st' := [vI 355, vI a3]) (M1 := M) rfl ?_
    refine Z_icmp k_X11_copy rfl 39 rfl (fun hc => ?_) (fun hc => ?_)
    · replace h := of_pos hc h
      refine Z_blk k_X11_copy 2 (pc' := 41) (lo' := [some (vR 0 21 0), some (vI a1), some (vI a2), some (vI 0)]) (st' := []) (M1 := M) rfl ?_
      refine Z_mask [true, true, true, true] (lo0 := [some (vR 0 21 0), some (vI a1), some (vI a2), some (vI 0)]) rfl ?_
      exact e_X11_copy_41 d zB a1 a2 0 M _ h
    · replace h := of_neg hc h
      refine Z_blk k_X11_copy 14 (pc' := 31) (lo' := [some (vR 0 21 0), some (vI a1), some (vI a2), some (vI a3)]) (st' := [vI (o_add (o_mul 355 a1) a3), vR 5 0 1775, vI (o_add (o_mul 355 a2) a3), vR 5 0 1775]) (M1 := M) rfl ?_
      obtain ⟨hc1, h⟩ := of_grd h
      refine Z_one k_X11_copy rfl (pc' := 32) (lo' := [some (vR 0 21 0), some (vI a1), some (vI a2), some (vI a3)]) (st' := [vI (M 5 (Int.toNat (o_add (o_mul 355 a1) a3))), vI (o_add (o_mul 355 a2) a3), vR 5 0 1775]) (M1 := M) (if_pos hc1) ?_
      obtain ⟨hc2, h⟩ := of_grd h
      obtain ⟨M3, eM3, h⟩ := of_zlet h
      refine Z_one k_X11_copy rfl (pc' := 33) (lo' := [some (vR 0 21 0), some (vI a1), some (vI a2), some (vI a3)]) (st' := []) (M1 := M3) (by rw [eM3]; exact if_pos hc2) ?_
      refine Z_blk k_X11_copy 2 (pc' := 2) (lo' := [some (vR 0 21 0), some (vI a1), some (vI a2), some (vI (o_add a3 1))]) (st' := []) (M1 := M3) rfl ?_
      refine Z_mask [true, true, true, true] (lo0 := [some (vR 0 21 0), some (vI a1), some (vI a2), some (vI (o_add a3 1))]) rfl ?_
      exact ih a1 a2 (o_add a3 1) M3 _ h
def f_X11_copy (a1 : Int) (a2 : Int) (M : AM) : Option (AM) := f_X11_copy_2 zB a1 a2 0 M
theorem e_X11_copy {Y : List (Nat × Nat)} (d : Nat) (a1 : Int) (a2 : Int) (M : AM) (N : AM) (h : f_X11_copy a1 a2 M = some N) : Ev Y (d + 0) m_X11_copy 0 [some (vR 0 21 0), some (vI a1), some (vI a2), none] [] M none N := by
  unfold f_X11_copy at h
  refine Z_blk k_X11_copy 2 (pc' := 2) (lo' := [some (vR 0 21 0), some (vI a1), some (vI a2), some (vI 0)]) (st' := []) (M1 := M) rfl ?_
  refine Z_mask [true, true, true, true] (lo0 := [some (vR 0 21 0), some (vI a1), some (vI a2), some (vI 0)]) rfl ?_
  exact e_X11_copy_2 d zB a1 a2 0 M _ h
theorem l_11_65 : zhas 6007 (Jvm.Cond.methodLink "BellPullHouseModel" 65 yX11_empties) = true := by decide +kernel
theorem l_11_282 : zhas 6201 (Jvm.Cond.methodLink "BellPullHouseModel" 282 yX11_starts) = true := by decide +kernel
theorem l_11_285 : zhas 6225 (Jvm.Cond.methodLink "BellPullHouseModel" 285 yX11_readPart) = true := by decide +kernel
theorem l_11_288 : zhas 7130 (Jvm.Cond.methodLink "BellPullHouseModel" 288 yX11_isSign) = true := by decide +kernel
theorem l_11_291 : zhas 7134 (Jvm.Cond.methodLink "BellPullHouseModel" 291 yX11_isWell) = true := by decide +kernel
theorem l_11_294 : zhas 7138 (Jvm.Cond.methodLink "BellPullHouseModel" 294 yX11_copy) = true := by decide +kernel
def f_X11_house_64 (M : AM) : Option (Int × AM) := (f_X11_isWell M).bind fun x1 => if ¬ x1.1 = 0 then ((f_X11_copy 4 0 x1.2).bind fun x2 => some (x2 5 (Int.toNat 2), x2)) else some ((-1), x1.2)
theorem e_X11_house_64 {Y : List (Nat × Nat)} (d : Nat) (M : AM) (x : Int) (N : AM) (h : f_X11_house_64 M = some (x, N)) : Ev Y (d + 9) m_X11_house 64 [some (vR 0 21 0), none] [] M (some (vI x)) N := by
  unfold f_X11_house_64 at h
  refine Z_blk k_X11_house 1 (pc' := 65) (lo' := [some (vR 0 21 0), none]) (st' := [vR 0 21 0]) (M1 := M) rfl ?_
  obtain ⟨x1, hx1, h⟩ := Option.bind_eq_some_iff.mp h
  refine Z_callV8 k_X11_house k_X11_isWell rfl rfl (l_11_291) (ci := 11) rfl [] [] rfl rfl (Nat.le_of_ble_eq_true rfl) (Nat.le_of_ble_eq_true rfl) (e_X11_isWell (d + 7) M _ _ hx1) ?_
  refine Z_if k_X11_house rfl 73 rfl (fun hc => ?_) (fun hc => ?_)
  · replace h := of_pos hc h
    refine Z_blk k_X11_house 3 (pc' := 76) (lo' := [some (vR 0 21 0), none]) (st' := [vI 0, vI 4, vR 0 21 0]) (M1 := x1.2) rfl ?_
    obtain ⟨x2, hx2, h⟩ := Option.bind_eq_some_iff.mp h
    refine Z_callV8 k_X11_house k_X11_copy rfl rfl (l_11_294) (ci := 11) rfl [vI 4, vI 0] [] rfl rfl (Nat.le_of_ble_eq_true rfl) (Nat.le_of_ble_eq_true rfl) (e_X11_copy (d + 8) 4 0 x1.2 _ hx2) ?_
    refine Z_blk k_X11_house 3 (pc' := 84) (lo' := [some (vR 0 21 0), none]) (st' := [vI 2, vR 5 0 1775]) (M1 := x2) rfl ?_
    refine Z_one k_X11_house rfl (pc' := 85) (lo' := [some (vR 0 21 0), none]) (st' := [vI (x2 5 (Int.toNat 2))]) (M1 := x2) (rfl) ?_
    cases h
    exact Z_ret ⟨Or.inl rfl, _, rfl⟩ rfl
  · replace h := of_neg hc h
    refine Z_blk k_X11_house 1 (pc' := 72) (lo' := [some (vR 0 21 0), none]) (st' := [vI (-1)]) (M1 := x1.2) rfl ?_
    cases h
    exact Z_ret ⟨Or.inl rfl, _, rfl⟩ rfl
def f_X11_house_33 : Nat → AM → Option (Int × AM)
  | 0, _ => none
  | n + 1, M => if ¬ M 0 12 = 0 then f_X11_house_64 M else (if M 0 14 = 0 then f_X11_house_64 M else ((f_X11_readPart M).bind fun x1 => (f_X11_isSign 59 x1).bind fun x2 => (f_X11_must x2.1 x2.2).bind fun x3 => f_X11_house_33 n x3))
theorem e_X11_house_33 {Y : List (Nat × Nat)} (d : Nat) : ∀ (n : Nat) (M : AM) (x : Int) (N : AM), f_X11_house_33 n M = some (x, N) → Ev Y (d + 9) m_X11_house 33 [some (vR 0 21 0), none] [] M (some (vI x)) N := by
  intro n
  induction n with
  | zero => intro M x N h; cases h
  | succ n ih =>
    intro M x N h
    simp only [f_X11_house_33] at h
    refine Z_blk k_X11_house 2 (pc' := 37) (lo' := [some (vR 0 21 0), none]) (st' := [vI (M 0 12)]) (M1 := M) rfl ?_
    refine Z_if k_X11_house rfl 64 rfl (fun hc => ?_) (fun hc => ?_)
    · replace h := of_pos hc h
      refine Z_mask [true, false] (lo0 := [some (vR 0 21 0), none]) rfl ?_
      exact e_X11_house_64 d M _ _ h
    · replace h := of_neg hc h
      refine Z_blk k_X11_house 2 (pc' := 44) (lo' := [some (vR 0 21 0), none]) (st' := [vI (M 0 14)]) (M1 := M) rfl ?_
      refine Z_if k_X11_house rfl 64 rfl (fun hc => ?_) (fun hc => ?_)
      · replace h := of_pos hc h
        refine Z_mask [true, false] (lo0 := [some (vR 0 21 0), none]) rfl ?_
        exact e_X11_house_64 d M _ _ h
      · replace h := of_neg hc h
        refine Z_blk k_X11_house 1 (pc' := 48) (lo' := [some (vR 0 21 0), none]) (st' := [vR 0 21 0]) (M1 := M) rfl ?_
        obtain ⟨x1, hx1, h⟩ := Option.bind_eq_some_iff.mp h
        refine Z_callV8 k_X11_house k_X11_readPart rfl rfl (l_11_285) (ci := 11) rfl [] [] rfl rfl (Nat.le_of_ble_eq_true rfl) (Nat.le_of_ble_eq_true rfl) (e_X11_readPart (d + 0) M _ hx1) ?_
        refine Z_blk k_X11_house 3 (pc' := 55) (lo' := [some (vR 0 21 0), none]) (st' := [vI 59, vR 0 21 0, vR 0 21 0]) (M1 := x1) rfl ?_
        obtain ⟨x2, hx2, h⟩ := Option.bind_eq_some_iff.mp h
        refine Z_callV8 k_X11_house k_X11_isSign rfl rfl (l_11_288) (ci := 11) rfl [vI 59] [vR 0 21 0] rfl rfl (Nat.le_of_ble_eq_true rfl) (Nat.le_of_ble_eq_true rfl) (e_X11_isSign (d + 8) 59 x1 _ _ hx2) ?_
        obtain ⟨x3, hx3, h⟩ := Option.bind_eq_some_iff.mp h
        refine Z_callV8 k_X11_house k_X11_must rfl rfl (l_11_220) (ci := 11) rfl [vI x2.1] [] rfl rfl (Nat.le_of_ble_eq_true rfl) (Nat.le_of_ble_eq_true rfl) (e_X11_must (d + 6) x2.1 x2.2 _ hx3) ?_
        refine Z_blk k_X11_house 1 (pc' := 33) (lo' := [some (vR 0 21 0), none]) (st' := []) (M1 := x3) rfl ?_
        refine Z_mask [true, false] (lo0 := [some (vR 0 21 0), none]) rfl ?_
        exact ih x3 _ _ h
def f_X11_house (a1 : Int) (M : AM) : Option (Int × AM) := zlet (am_upd M 0 1 0) fun M1 => zlet (am_upd M1 0 0 0) fun M2 => (f_X11_starts a1 900 M2).bind fun x3 => if ¬ x3.1 = 0 then ((f_X11_empties 4 x3.2).bind fun x4 => zlet (am_upd x4 0 25 0) fun M5 => f_X11_house_33 zB M5) else some ((-1), x3.2)
theorem e_X11_house {Y : List (Nat × Nat)} (d : Nat) (a1 : Int) (M : AM) (x : Int) (N : AM) (h : f_X11_house a1 M = some (x, N)) : Ev Y (d + 9) m_X11_house 0 [some (vR 0 21 0), some (vI a1)] [] M (some (vI x)) N := by
  unfold f_X11_house at h
  obtain ⟨M1, eM1, h⟩ := of_zlet h
  refine Z_blk k_X11_house 3 (pc' := 5) (lo' := [some (vR 0 21 0), some (vI a1)]) (st' := []) (M1 := M1) (by rw [eM1]; rfl) ?_
  obtain ⟨M2, eM2, h⟩ := of_zlet h
  refine Z_blk k_X11_house 3 (pc' := 10) (lo' := [some (vR 0 21 0), some (vI a1)]) (st' := []) (M1 := M2) (by rw [eM2]; rfl) ?_
  refine Z_blk k_X11_house 3 (pc' := 15) (lo' := [some (vR 0 21 0), some (vI a1)]) (st' := [vI 900, vI a1, vR 0 21 0]) (M1 := M2) rfl ?_
  obtain ⟨x3, hx3, h⟩ := Option.bind_eq_some_iff.mp h
  refine Z_callV8 k_X11_house k_X11_starts rfl rfl (l_11_282) (ci := 11) rfl [vI a1, vI 900] [] rfl rfl (Nat.le_of_ble_eq_true rfl) (Nat.le_of_ble_eq_true rfl) (e_X11_starts (d + 6) a1 900 M2 _ _ hx3) ?_
  refine Z_if k_X11_house rfl 23 rfl (fun hc => ?_) (fun hc => ?_)
  · replace h := of_pos hc h
    refine Z_blk k_X11_house 2 (pc' := 25) (lo' := [some (vR 0 21 0), some (vI a1)]) (st' := [vI 4, vR 0 21 0]) (M1 := x3.2) rfl ?_
    obtain ⟨x4, hx4, h⟩ := Option.bind_eq_some_iff.mp h
    refine Z_callV8 k_X11_house k_X11_empties rfl rfl (l_11_65) (ci := 11) rfl [vI 4] [] rfl rfl (Nat.le_of_ble_eq_true rfl) (Nat.le_of_ble_eq_true rfl) (e_X11_empties (d + 8) 4 x3.2 _ hx4) ?_
    obtain ⟨M5, eM5, h⟩ := of_zlet h
    refine Z_blk k_X11_house 3 (pc' := 33) (lo' := [some (vR 0 21 0), some (vI a1)]) (st' := []) (M1 := M5) (by rw [eM5]; rfl) ?_
    refine Z_mask [true, false] (lo0 := [some (vR 0 21 0), none]) rfl ?_
    exact e_X11_house_33 d zB M5 _ _ h
  · replace h := of_neg hc h
    refine Z_blk k_X11_house 1 (pc' := 22) (lo' := [some (vR 0 21 0), some (vI a1)]) (st' := [vI (-1)]) (M1 := x3.2) rfl ?_
    cases h
    exact Z_ret ⟨Or.inl rfl, _, rfl⟩ rfl
def f_X11_readTest_120 (a1 : Int) (s1 : Int) (M : AM) : Option (AM) := (f_X11_must s1 M).bind fun x1 => (f_X11_count 0 9 x1).bind fun x2 => if 0 ≤ o_add a1 6 ∧ o_add a1 6 < 1775 then (zlet (am_upd x2.2 5 (Int.toNat (o_add a1 6)) x2.1) fun M4 => some M4) else none
theorem e_X11_readTest_120 {Y : List (Nat × Nat)} (d : Nat) (a1 : Int) (s1 : Int) (M : AM) (N : AM) (h : f_X11_readTest_120 a1 s1 M = some N) : Ev Y (d + 7) m_X11_readTest 120 [some (vR 0 21 0), some (vI a1), none] [vI s1, vR 0 21 0] M none N := by
  unfold f_X11_readTest_120 at h
  obtain ⟨x1, hx1, h⟩ := Option.bind_eq_some_iff.mp h
  refine Z_callV8 k_X11_readTest k_X11_must rfl rfl (l_11_220) (ci := 11) rfl [vI s1] [] rfl rfl (Nat.le_of_ble_eq_true rfl) (Nat.le_of_ble_eq_true rfl) (e_X11_must (d + 4) s1 M _ hx1) ?_
  refine Z_blk k_X11_readTest 8 (pc' := 135) (lo' := [some (vR 0 21 0), some (vI a1), none]) (st' := [vI 9, vI 0, vR 0 21 0, vI (o_add a1 6), vR 5 0 1775]) (M1 := x1) rfl ?_
  obtain ⟨x2, hx2, h⟩ := Option.bind_eq_some_iff.mp h
  refine Z_callV8 k_X11_readTest k_X11_count rfl rfl (l_11_224) (ci := 11) rfl [vI 0, vI 9] [vI (o_add a1 6), vR 5 0 1775] rfl rfl (Nat.le_of_ble_eq_true rfl) (Nat.le_of_ble_eq_true rfl) (e_X11_count (d + 4) 0 9 x1 _ _ hx2) ?_
  obtain ⟨hc3, h⟩ := of_grd h
  obtain ⟨M4, eM4, h⟩ := of_zlet h
  refine Z_one k_X11_readTest rfl (pc' := 139) (lo' := [some (vR 0 21 0), some (vI a1), none]) (st' := []) (M1 := M4) (by rw [eM4]; exact if_pos hc3) ?_
  cases h
  exact Z_ret ⟨rfl, _, rfl⟩ rfl
def f_X11_readTest_86 (a1 : Int) (r0 : Nat) (s1 : Int) (s2 : Int) (M : AM) : Option (AM) := if 0 ≤ s1 ∧ s1 < 1775 then (zlet (am_upd M r0 (Int.toNat s1) s2) fun M2 => (f_X11_isSign 60 M2).bind fun x3 => if ¬ x3.1 = 0 then f_X11_readTest_120 a1 1 x3.2 else ((f_X11_isSign 62 x3.2).bind fun x4 => if ¬ x4.1 = 0 then f_X11_readTest_120 a1 1 x4.2 else ((f_X11_isSign 61 x4.2).bind fun x5 => if x5.1 = 0 then f_X11_readTest_120 a1 0 x5.2 else f_X11_readTest_120 a1 1 x5.2))) else none
theorem e_X11_readTest_86 {Y : List (Nat × Nat)} (d : Nat) (a1 : Int) (r0 : Nat) (s1 : Int) (s2 : Int) (M : AM) (N : AM) (h : f_X11_readTest_86 a1 r0 s1 s2 M = some N) : Ev Y (d + 7) m_X11_readTest 86 [some (vR 0 21 0), some (vI a1), none] [vI s2, vI s1, vR r0 0 1775] M none N := by
  unfold f_X11_readTest_86 at h
  obtain ⟨hc1, h⟩ := of_grd h
  obtain ⟨M2, eM2, h⟩ := of_zlet h
  refine Z_one k_X11_readTest rfl (pc' := 87) (lo' := [some (vR 0 21 0), some (vI a1), none]) (st' := []) (M1 := M2) (by rw [eM2]; exact if_pos hc1) ?_
  refine Z_blk k_X11_readTest 3 (pc' := 91) (lo' := [some (vR 0 21 0), some (vI a1), none]) (st' := [vI 60, vR 0 21 0, vR 0 21 0]) (M1 := M2) rfl ?_
  obtain ⟨x3, hx3, h⟩ := Option.bind_eq_some_iff.mp h
  refine Z_callV8 k_X11_readTest k_X11_isSign rfl rfl (l_11_288) (ci := 11) rfl [vI 60] [vR 0 21 0] rfl rfl (Nat.le_of_ble_eq_true rfl) (Nat.le_of_ble_eq_true rfl) (e_X11_isSign (d + 6) 60 M2 _ _ hx3) ?_
  refine Z_if k_X11_readTest rfl 115 rfl (fun hc => ?_) (fun hc => ?_)
  · replace h := of_pos hc h
    refine Z_blk k_X11_readTest 2 (pc' := 120) (lo' := [some (vR 0 21 0), some (vI a1), none]) (st' := [vI 1, vR 0 21 0]) (M1 := x3.2) rfl ?_
    refine Z_mask [true, true, false] (lo0 := [some (vR 0 21 0), some (vI a1), none]) rfl ?_
    exact e_X11_readTest_120 d a1 1 x3.2 _ h
  · replace h := of_neg hc h
    refine Z_blk k_X11_readTest 2 (pc' := 100) (lo' := [some (vR 0 21 0), some (vI a1), none]) (st' := [vI 62, vR 0 21 0, vR 0 21 0]) (M1 := x3.2) rfl ?_
    obtain ⟨x4, hx4, h⟩ := Option.bind_eq_some_iff.mp h
    refine Z_callV8 k_X11_readTest k_X11_isSign rfl rfl (l_11_288) (ci := 11) rfl [vI 62] [vR 0 21 0] rfl rfl (Nat.le_of_ble_eq_true rfl) (Nat.le_of_ble_eq_true rfl) (e_X11_isSign (d + 6) 62 x3.2 _ _ hx4) ?_
    refine Z_if k_X11_readTest rfl 115 rfl (fun hc => ?_) (fun hc => ?_)
    · replace h := of_pos hc h
      refine Z_blk k_X11_readTest 2 (pc' := 120) (lo' := [some (vR 0 21 0), some (vI a1), none]) (st' := [vI 1, vR 0 21 0]) (M1 := x4.2) rfl ?_
      refine Z_mask [true, true, false] (lo0 := [some (vR 0 21 0), some (vI a1), none]) rfl ?_
      exact e_X11_readTest_120 d a1 1 x4.2 _ h
    · replace h := of_neg hc h
      refine Z_blk k_X11_readTest 2 (pc' := 109) (lo' := [some (vR 0 21 0), some (vI a1), none]) (st' := [vI 61, vR 0 21 0, vR 0 21 0]) (M1 := x4.2) rfl ?_
      obtain ⟨x5, hx5, h⟩ := Option.bind_eq_some_iff.mp h
      refine Z_callV8 k_X11_readTest k_X11_isSign rfl rfl (l_11_288) (ci := 11) rfl [vI 61] [vR 0 21 0] rfl rfl (Nat.le_of_ble_eq_true rfl) (Nat.le_of_ble_eq_true rfl) (e_X11_isSign (d + 6) 61 x4.2 _ _ hx5) ?_
      refine Z_if k_X11_readTest rfl 119 rfl (fun hc => ?_) (fun hc => ?_)
      · replace h := of_pos hc h
        refine Z_blk k_X11_readTest 1 (pc' := 120) (lo' := [some (vR 0 21 0), some (vI a1), none]) (st' := [vI 0, vR 0 21 0]) (M1 := x5.2) rfl ?_
        refine Z_mask [true, true, false] (lo0 := [some (vR 0 21 0), some (vI a1), none]) rfl ?_
        exact e_X11_readTest_120 d a1 0 x5.2 _ h
      · replace h := of_neg hc h
        refine Z_blk k_X11_readTest 2 (pc' := 120) (lo' := [some (vR 0 21 0), some (vI a1), none]) (st' := [vI 1, vR 0 21 0]) (M1 := x5.2) rfl ?_
        refine Z_mask [true, true, false] (lo0 := [some (vR 0 21 0), some (vI a1), none]) rfl ?_
        exact e_X11_readTest_120 d a1 1 x5.2 _ h
def f_X11_readTest_15 (a1 : Int) (a2 : Int) (s1 : Int) (M : AM) : Option (AM) := (f_X11_must s1 M).bind fun x1 => if 0 ≤ o_add a1 5 ∧ o_add a1 5 < 1775 then (zlet (am_upd x1 5 (Int.toNat (o_add a1 5)) a2) fun M3 => if M3 0 12 ≤ 0 then ((f_X11_readTold 0 2 M3).bind fun x4 => if 0 ≤ o_add a1 1 ∧ o_add a1 1 < 1775 then (zlet (am_upd x4.2 5 (Int.toNat (o_add a1 1)) x4.1) fun M6 => if 0 < M6 0 12 then some M6 else (if a2 = 1 then (if ¬ M6 0 14 = 3 then f_X11_readTest_86 a1 5 (o_add a1 7) 0 M6 else f_X11_readTest_86 a1 5 (o_add a1 7) (M6 0 17) M6) else some M6)) else none) else some M3) else none
theorem e_X11_readTest_15 {Y : List (Nat × Nat)} (d : Nat) (a1 : Int) (a2 : Int) (s1 : Int) (M : AM) (N : AM) (h : f_X11_readTest_15 a1 a2 s1 M = some N) : Ev Y (d + 7) m_X11_readTest 15 [some (vR 0 21 0), some (vI a1), some (vI a2)] [vI s1, vR 0 21 0] M none N := by
  unfold f_X11_readTest_15 at h
  obtain ⟨x1, hx1, h⟩ := Option.bind_eq_some_iff.mp h
  refine Z_callV8 k_X11_readTest k_X11_must rfl rfl (l_11_220) (ci := 11) rfl [vI s1] [] rfl rfl (Nat.le_of_ble_eq_true rfl) (Nat.le_of_ble_eq_true rfl) (e_X11_must (d + 4) s1 M _ hx1) ?_
  refine Z_blk k_X11_readTest 6 (pc' := 26) (lo' := [some (vR 0 21 0), some (vI a1), some (vI a2)]) (st' := [vI a2, vI (o_add a1 5), vR 5 0 1775]) (M1 := x1) rfl ?_
  obtain ⟨hc2, h⟩ := of_grd h
  obtain ⟨M3, eM3, h⟩ := of_zlet h
  refine Z_one k_X11_readTest rfl (pc' := 27) (lo' := [some (vR 0 21 0), some (vI a1), some (vI a2)]) (st' := []) (M1 := M3) (by rw [eM3]; exact if_pos hc2) ?_
  refine Z_blk k_X11_readTest 2 (pc' := 31) (lo' := [some (vR 0 21 0), some (vI a1), some (vI a2)]) (st' := [vI (M3 0 12)]) (M1 := M3) rfl ?_
  refine Z_if k_X11_readTest rfl 35 rfl (fun hc => ?_) (fun hc => ?_)
  · replace h := of_pos hc h
    refine Z_blk k_X11_readTest 8 (pc' := 45) (lo' := [some (vR 0 21 0), some (vI a1), some (vI a2)]) (st' := [vI 2, vI 0, vR 0 21 0, vI (o_add a1 1), vR 5 0 1775]) (M1 := M3) rfl ?_
    obtain ⟨x4, hx4, h⟩ := Option.bind_eq_some_iff.mp h
    refine Z_callV8 k_X11_readTest k_X11_readTold rfl rfl (l_11_254) (ci := 11) rfl [vI 0, vI 2] [vI (o_add a1 1), vR 5 0 1775] rfl rfl (Nat.le_of_ble_eq_true rfl) (Nat.le_of_ble_eq_true rfl) (e_X11_readTold (d + 0) 0 2 M3 _ _ hx4) ?_
    obtain ⟨hc5, h⟩ := of_grd h
    obtain ⟨M6, eM6, h⟩ := of_zlet h
    refine Z_one k_X11_readTest rfl (pc' := 49) (lo' := [some (vR 0 21 0), some (vI a1), some (vI a2)]) (st' := []) (M1 := M6) (by rw [eM6]; exact if_pos hc5) ?_
    refine Z_blk k_X11_readTest 2 (pc' := 53) (lo' := [some (vR 0 21 0), some (vI a1), some (vI a2)]) (st' := [vI (M6 0 12)]) (M1 := M6) rfl ?_
    refine Z_if k_X11_readTest rfl 61 rfl (fun hc => ?_) (fun hc => ?_)
    · replace h := of_pos hc h
      cases h
      exact Z_ret ⟨rfl, _, rfl⟩ rfl
    · replace h := of_neg hc h
      refine Z_blk k_X11_readTest 2 (pc' := 58) (lo' := [some (vR 0 21 0), some (vI a1), some (vI a2)]) (st' := [vI 1, vI a2]) (M1 := M6) rfl ?_
      refine Z_icmp k_X11_readTest rfl 62 rfl (fun hc => ?_) (fun hc => ?_)
      · replace h := of_pos hc h
        refine Z_blk k_X11_readTest 8 (pc' := 75) (lo' := [some (vR 0 21 0), some (vI a1), some (vI a2)]) (st' := [vI 3, vI (M6 0 14), vI (o_add a1 7), vR 5 0 1775]) (M1 := M6) rfl ?_
        refine Z_icmp k_X11_readTest rfl 85 rfl (fun hc => ?_) (fun hc => ?_)
        · replace h := of_pos hc h
          refine Z_blk k_X11_readTest 1 (pc' := 86) (lo' := [some (vR 0 21 0), some (vI a1), some (vI a2)]) (st' := [vI 0, vI (o_add a1 7), vR 5 0 1775]) (M1 := M6) rfl ?_
          refine Z_mask [true, true, false] (lo0 := [some (vR 0 21 0), some (vI a1), none]) rfl ?_
          exact e_X11_readTest_86 d a1 5 (o_add a1 7) 0 M6 _ h
        · replace h := of_neg hc h
          refine Z_blk k_X11_readTest 3 (pc' := 86) (lo' := [some (vR 0 21 0), some (vI a1), some (vI a2)]) (st' := [vI (M6 0 17), vI (o_add a1 7), vR 5 0 1775]) (M1 := M6) rfl ?_
          refine Z_mask [true, true, false] (lo0 := [some (vR 0 21 0), some (vI a1), none]) rfl ?_
          exact e_X11_readTest_86 d a1 5 (o_add a1 7) (M6 0 17) M6 _ h
      · replace h := of_neg hc h
        cases h
        exact Z_ret ⟨rfl, _, rfl⟩ rfl
  · replace h := of_neg hc h
    cases h
    exact Z_ret ⟨rfl, _, rfl⟩ rfl
def f_X11_readTest (a1 : Int) (M : AM) : Option (AM) := (f_X11_testWord M).bind fun x1 => if x1.1 < 0 then f_X11_readTest_15 a1 x1.1 0 x1.2 else f_X11_readTest_15 a1 x1.1 1 x1.2
theorem e_X11_readTest {Y : List (Nat × Nat)} (d : Nat) (a1 : Int) (M : AM) (N : AM) (h : f_X11_readTest a1 M = some N) : Ev Y (d + 7) m_X11_readTest 0 [some (vR 0 21 0), some (vI a1), none] [] M none N := by
  unfold f_X11_readTest at h
  refine Z_blk k_X11_readTest 1 (pc' := 1) (lo' := [some (vR 0 21 0), some (vI a1), none]) (st' := [vR 0 21 0]) (M1 := M) rfl ?_
  obtain ⟨x1, hx1, h⟩ := Option.bind_eq_some_iff.mp h
  refine Z_callV8 k_X11_readTest k_X11_testWord rfl rfl (l_11_195) (ci := 11) rfl [] [] rfl rfl (Nat.le_of_ble_eq_true rfl) (Nat.le_of_ble_eq_true rfl) (e_X11_testWord (d + 4) M _ _ hx1) ?_
  refine Z_blk k_X11_readTest 3 (pc' := 7) (lo' := [some (vR 0 21 0), some (vI a1), some (vI x1.1)]) (st' := [vI x1.1, vR 0 21 0]) (M1 := x1.2) rfl ?_
  refine Z_if k_X11_readTest rfl 14 rfl (fun hc => ?_) (fun hc => ?_)
  · replace h := of_pos hc h
    refine Z_blk k_X11_readTest 1 (pc' := 15) (lo' := [some (vR 0 21 0), some (vI a1), some (vI x1.1)]) (st' := [vI 0, vR 0 21 0]) (M1 := x1.2) rfl ?_
    refine Z_mask [true, true, true] (lo0 := [some (vR 0 21 0), some (vI a1), some (vI x1.1)]) rfl ?_
    exact e_X11_readTest_15 d a1 x1.1 0 x1.2 _ h
  · replace h := of_neg hc h
    refine Z_blk k_X11_readTest 2 (pc' := 15) (lo' := [some (vR 0 21 0), some (vI a1), some (vI x1.1)]) (st' := [vI 1, vR 0 21 0]) (M1 := x1.2) rfl ?_
    refine Z_mask [true, true, true] (lo0 := [some (vR 0 21 0), some (vI a1), some (vI x1.1)]) rfl ?_
    exact e_X11_readTest_15 d a1 x1.1 1 x1.2 _ h
theorem l_11_297 : zhas 7154 (Jvm.Cond.methodLink "BellPullHouseModel" 297 yX11_readTest) = true := by decide +kernel
def f_X11_readRest_77 (a1 : Int) (M : AM) : Option (AM) := (f_X11_readTold 0 1 M).bind fun x1 => if 0 ≤ o_add a1 1 ∧ o_add a1 1 < 1775 then (zlet (am_upd x1.2 5 (Int.toNat (o_add a1 1)) x1.1) fun M3 => some M3) else none
theorem e_X11_readRest_77 {Y : List (Nat × Nat)} (d : Nat) (a1 : Int) (M : AM) (N : AM) (h : f_X11_readRest_77 a1 M = some N) : Ev Y (d + 8) m_X11_readRest 77 [some (vR 0 21 0), some (vI a1), none] [] M none N := by
  unfold f_X11_readRest_77 at h
  refine Z_blk k_X11_readRest 8 (pc' := 87) (lo' := [some (vR 0 21 0), some (vI a1), none]) (st' := [vI 1, vI 0, vR 0 21 0, vI (o_add a1 1), vR 5 0 1775]) (M1 := M) rfl ?_
  obtain ⟨x1, hx1, h⟩ := Option.bind_eq_some_iff.mp h
  refine Z_callV8 k_X11_readRest k_X11_readTold rfl rfl (l_11_254) (ci := 11) rfl [vI 0, vI 1] [vI (o_add a1 1), vR 5 0 1775] rfl rfl (Nat.le_of_ble_eq_true rfl) (Nat.le_of_ble_eq_true rfl) (e_X11_readTold (d + 1) 0 1 M _ _ hx1) ?_
  obtain ⟨hc2, h⟩ := of_grd h
  obtain ⟨M3, eM3, h⟩ := of_zlet h
  refine Z_one k_X11_readRest rfl (pc' := 91) (lo' := [some (vR 0 21 0), some (vI a1), none]) (st' := []) (M1 := M3) (by rw [eM3]; exact if_pos hc2) ?_
  cases h
  exact Z_ret ⟨rfl, _, rfl⟩ rfl
def f_X11_readRest (a1 : Int) (M : AM) : Option (AM) := if 0 ≤ a1 ∧ a1 < 1775 then (if ¬ M 5 (Int.toNat a1) = 0 then (if ¬ M 5 (Int.toNat a1) = 7 then (if ¬ M 5 (Int.toNat a1) = 6 then (if M 5 (Int.toNat a1) = 3 then f_X11_readRest_77 a1 M else (if ¬ M 5 (Int.toNat a1) = 4 then some M else f_X11_readRest_77 a1 M)) else ((f_X11_readTest a1 M).bind fun x2 => some x2)) else ((f_X11_count 1 99 M).bind fun x3 => if 0 ≤ o_add a1 1 ∧ o_add a1 1 < 1775 then (zlet (am_upd x3.2 5 (Int.toNat (o_add a1 1)) x3.1) fun M5 => some M5) else none)) else ((f_X11_count 1 40 M).bind fun x6 => if 0 ≤ o_add a1 1 ∧ o_add a1 1 < 1775 then (zlet (am_upd x6.2 5 (Int.toNat (o_add a1 1)) x6.1) fun M8 => some M8) else none)) else none
theorem e_X11_readRest {Y : List (Nat × Nat)} (d : Nat) (a1 : Int) (M : AM) (N : AM) (h : f_X11_readRest a1 M = some N) : Ev Y (d + 8) m_X11_readRest 0 [some (vR 0 21 0), some (vI a1), none] [] M none N := by
  unfold f_X11_readRest at h
  refine Z_blk k_X11_readRest 3 (pc' := 5) (lo' := [some (vR 0 21 0), some (vI a1), none]) (st' := [vI a1, vR 5 0 1775]) (M1 := M) rfl ?_
  obtain ⟨hc1, h⟩ := of_grd h
  refine Z_one k_X11_readRest rfl (pc' := 6) (lo' := [some (vR 0 21 0), some (vI a1), none]) (st' := [vI (M 5 (Int.toNat a1))]) (M1 := M) (if_pos hc1) ?_
  refine Z_blk k_X11_readRest 2 (pc' := 8) (lo' := [some (vR 0 21 0), some (vI a1), some (vI (M 5 (Int.toNat a1)))]) (st' := [vI (M 5 (Int.toNat a1))]) (M1 := M) rfl ?_
  refine Z_if k_X11_readRest rfl 29 rfl (fun hc => ?_) (fun hc => ?_)
  · replace h := of_pos hc h
    refine Z_blk k_X11_readRest 2 (pc' := 32) (lo' := [some (vR 0 21 0), some (vI a1), some (vI (M 5 (Int.toNat a1)))]) (st' := [vI 7, vI (M 5 (Int.toNat a1))]) (M1 := M) rfl ?_
    refine Z_icmp k_X11_readRest rfl 53 rfl (fun hc => ?_) (fun hc => ?_)
    · replace h := of_pos hc h
      refine Z_blk k_X11_readRest 2 (pc' := 56) (lo' := [some (vR 0 21 0), some (vI a1), some (vI (M 5 (Int.toNat a1)))]) (st' := [vI 6, vI (M 5 (Int.toNat a1))]) (M1 := M) rfl ?_
      refine Z_icmp k_X11_readRest rfl 67 rfl (fun hc => ?_) (fun hc => ?_)
      · replace h := of_pos hc h
        refine Z_blk k_X11_readRest 2 (pc' := 69) (lo' := [some (vR 0 21 0), some (vI a1), some (vI (M 5 (Int.toNat a1)))]) (st' := [vI 3, vI (M 5 (Int.toNat a1))]) (M1 := M) rfl ?_
        refine Z_icmp k_X11_readRest rfl 77 rfl (fun hc => ?_) (fun hc => ?_)
        · replace h := of_pos hc h
          refine Z_mask [true, true, false] (lo0 := [some (vR 0 21 0), some (vI a1), none]) rfl ?_
          exact e_X11_readRest_77 d a1 M _ h
        · replace h := of_neg hc h
          refine Z_blk k_X11_readRest 2 (pc' := 74) (lo' := [some (vR 0 21 0), some (vI a1), some (vI (M 5 (Int.toNat a1)))]) (st' := [vI 4, vI (M 5 (Int.toNat a1))]) (M1 := M) rfl ?_
          refine Z_icmp k_X11_readRest rfl 91 rfl (fun hc => ?_) (fun hc => ?_)
          · replace h := of_pos hc h
            cases h
            exact Z_ret ⟨rfl, _, rfl⟩ rfl
          · replace h := of_neg hc h
            refine Z_mask [true, true, false] (lo0 := [some (vR 0 21 0), some (vI a1), none]) rfl ?_
            exact e_X11_readRest_77 d a1 M _ h
      · replace h := of_neg hc h
        refine Z_blk k_X11_readRest 2 (pc' := 61) (lo' := [some (vR 0 21 0), some (vI a1), some (vI (M 5 (Int.toNat a1)))]) (st' := [vI a1, vR 0 21 0]) (M1 := M) rfl ?_
        obtain ⟨x2, hx2, h⟩ := Option.bind_eq_some_iff.mp h
        refine Z_callV8 k_X11_readRest k_X11_readTest rfl rfl (l_11_297) (ci := 11) rfl [vI a1] [] rfl rfl (Nat.le_of_ble_eq_true rfl) (Nat.le_of_ble_eq_true rfl) (e_X11_readTest (d + 0) a1 M _ hx2) ?_
        refine Z_blk k_X11_readRest 1 (pc' := 91) (lo' := [some (vR 0 21 0), some (vI a1), some (vI (M 5 (Int.toNat a1)))]) (st' := []) (M1 := x2) rfl ?_
        cases h
        exact Z_ret ⟨rfl, _, rfl⟩ rfl
    · replace h := of_neg hc h
      refine Z_blk k_X11_readRest 8 (pc' := 46) (lo' := [some (vR 0 21 0), some (vI a1), some (vI (M 5 (Int.toNat a1)))]) (st' := [vI 99, vI 1, vR 0 21 0, vI (o_add a1 1), vR 5 0 1775]) (M1 := M) rfl ?_
      obtain ⟨x3, hx3, h⟩ := Option.bind_eq_some_iff.mp h
      refine Z_callV8 k_X11_readRest k_X11_count rfl rfl (l_11_224) (ci := 11) rfl [vI 1, vI 99] [vI (o_add a1 1), vR 5 0 1775] rfl rfl (Nat.le_of_ble_eq_true rfl) (Nat.le_of_ble_eq_true rfl) (e_X11_count (d + 5) 1 99 M _ _ hx3) ?_
      obtain ⟨hc4, h⟩ := of_grd h
      obtain ⟨M5, eM5, h⟩ := of_zlet h
      refine Z_one k_X11_readRest rfl (pc' := 50) (lo' := [some (vR 0 21 0), some (vI a1), some (vI (M 5 (Int.toNat a1)))]) (st' := []) (M1 := M5) (by rw [eM5]; exact if_pos hc4) ?_
      refine Z_blk k_X11_readRest 1 (pc' := 91) (lo' := [some (vR 0 21 0), some (vI a1), some (vI (M 5 (Int.toNat a1)))]) (st' := []) (M1 := M5) rfl ?_
      cases h
      exact Z_ret ⟨rfl, _, rfl⟩ rfl
  · replace h := of_neg hc h
    refine Z_blk k_X11_readRest 8 (pc' := 22) (lo' := [some (vR 0 21 0), some (vI a1), some (vI (M 5 (Int.toNat a1)))]) (st' := [vI 40, vI 1, vR 0 21 0, vI (o_add a1 1), vR 5 0 1775]) (M1 := M) rfl ?_
    obtain ⟨x6, hx6, h⟩ := Option.bind_eq_some_iff.mp h
    refine Z_callV8 k_X11_readRest k_X11_count rfl rfl (l_11_224) (ci := 11) rfl [vI 1, vI 40] [vI (o_add a1 1), vR 5 0 1775] rfl rfl (Nat.le_of_ble_eq_true rfl) (Nat.le_of_ble_eq_true rfl) (e_X11_count (d + 5) 1 40 M _ _ hx6) ?_
    obtain ⟨hc7, h⟩ := of_grd h
    obtain ⟨M8, eM8, h⟩ := of_zlet h
    refine Z_one k_X11_readRest rfl (pc' := 26) (lo' := [some (vR 0 21 0), some (vI a1), some (vI (M 5 (Int.toNat a1)))]) (st' := []) (M1 := M8) (by rw [eM8]; exact if_pos hc7) ?_
    refine Z_blk k_X11_readRest 1 (pc' := 91) (lo' := [some (vR 0 21 0), some (vI a1), some (vI (M 5 (Int.toNat a1)))]) (st' := []) (M1 := M8) rfl ?_
    cases h
    exact Z_ret ⟨rfl, _, rfl⟩ rfl
theorem l_11_303 : zhas 7150 (Jvm.Cond.methodLink "BellPullHouseModel" 303 yX11_readRest) = true := by decide +kernel
theorem l_11_306 : zhas 7146 (Jvm.Cond.methodLink "BellPullHouseModel" 306 yX11_readStep) = true := by decide +kernel
def f_X11_readStep_170 (r_X11_readStep : Int → AM → Option (AM)) (a3 : Int) (a4 : Int) (M : AM) : Option (AM) := if a3 = 0 then (if 0 ≤ o_add a4 8 ∧ o_add a4 8 < 1775 then (zlet (am_upd M 5 (Int.toNat (o_add a4 8)) (M 0 26)) fun M2 => some M2) else none) else ((f_X11_isEnd M).bind fun x3 => (f_X11_must x3.1 x3.2).bind fun x4 => (f_X11_isSign 59 x4).bind fun x5 => (f_X11_must x5.1 x5.2).bind fun x6 => if 0 ≤ o_add a4 8 ∧ o_add a4 8 < 1775 then (zlet (am_upd x6 5 (Int.toNat (o_add a4 8)) (x6 0 26)) fun M8 => some M8) else none)
theorem e_X11_readStep_170 {Y : List (Nat × Nat)} (d : Nat) (r_X11_readStep : Int → AM → Option (AM)) (hr_X11_readStep : ∀ (a1 : Int) (M : AM) (N : AM), r_X11_readStep a1 M = some N → Ev Y (d + 8) m_X11_readStep 0 [some (vR 0 21 0), some (vI a1), none, none, none] [] M none N) (a3 : Int) (a4 : Int) (M : AM) (N : AM) (h : f_X11_readStep_170 r_X11_readStep a3 a4 M = some N) : Ev Y (d + 9) m_X11_readStep 170 [some (vR 0 21 0), none, none, some (vI a3), some (vI a4)] [] M none N := by
  unfold f_X11_readStep_170 at h
  refine Z_blk k_X11_readStep 1 (pc' := 171) (lo' := [some (vR 0 21 0), none, none, some (vI a3), some (vI a4)]) (st' := [vI a3]) (M1 := M) rfl ?_
  refine Z_if k_X11_readStep rfl 192 rfl (fun hc => ?_) (fun hc => ?_)
  · replace h := of_pos hc h
    refine Z_blk k_X11_readStep 7 (pc' := 205) (lo' := [some (vR 0 21 0), none, none, some (vI a3), some (vI a4)]) (st' := [vI (M 0 26), vI (o_add a4 8), vR 5 0 1775]) (M1 := M) rfl ?_
    obtain ⟨hc1, h⟩ := of_grd h
    obtain ⟨M2, eM2, h⟩ := of_zlet h
    refine Z_one k_X11_readStep rfl (pc' := 206) (lo' := [some (vR 0 21 0), none, none, some (vI a3), some (vI a4)]) (st' := []) (M1 := M2) (by rw [eM2]; exact if_pos hc1) ?_
    cases h
    exact Z_ret ⟨rfl, _, rfl⟩ rfl
  · replace h := of_neg hc h
    refine Z_blk k_X11_readStep 2 (pc' := 176) (lo' := [some (vR 0 21 0), none, none, some (vI a3), some (vI a4)]) (st' := [vR 0 21 0, vR 0 21 0]) (M1 := M) rfl ?_
    obtain ⟨x3, hx3, h⟩ := Option.bind_eq_some_iff.mp h
    refine Z_callV8 k_X11_readStep k_X11_isEnd rfl rfl (l_11_198) (ci := 11) rfl [] [vR 0 21 0] rfl rfl (Nat.le_of_ble_eq_true rfl) (Nat.le_of_ble_eq_true rfl) (e_X11_isEnd (d + 7) M _ _ hx3) ?_
    obtain ⟨x4, hx4, h⟩ := Option.bind_eq_some_iff.mp h
    refine Z_callV8 k_X11_readStep k_X11_must rfl rfl (l_11_220) (ci := 11) rfl [vI x3.1] [] rfl rfl (Nat.le_of_ble_eq_true rfl) (Nat.le_of_ble_eq_true rfl) (e_X11_must (d + 6) x3.1 x3.2 _ hx4) ?_
    refine Z_blk k_X11_readStep 3 (pc' := 186) (lo' := [some (vR 0 21 0), none, none, some (vI a3), some (vI a4)]) (st' := [vI 59, vR 0 21 0, vR 0 21 0]) (M1 := x4) rfl ?_
    obtain ⟨x5, hx5, h⟩ := Option.bind_eq_some_iff.mp h
    refine Z_callV8 k_X11_readStep k_X11_isSign rfl rfl (l_11_288) (ci := 11) rfl [vI 59] [vR 0 21 0] rfl rfl (Nat.le_of_ble_eq_true rfl) (Nat.le_of_ble_eq_true rfl) (e_X11_isSign (d + 8) 59 x4 _ _ hx5) ?_
    obtain ⟨x6, hx6, h⟩ := Option.bind_eq_some_iff.mp h
    refine Z_callV8 k_X11_readStep k_X11_must rfl rfl (l_11_220) (ci := 11) rfl [vI x5.1] [] rfl rfl (Nat.le_of_ble_eq_true rfl) (Nat.le_of_ble_eq_true rfl) (e_X11_must (d + 6) x5.1 x5.2 _ hx6) ?_
    refine Z_blk k_X11_readStep 7 (pc' := 205) (lo' := [some (vR 0 21 0), none, none, some (vI a3), some (vI a4)]) (st' := [vI (x6 0 26), vI (o_add a4 8), vR 5 0 1775]) (M1 := x6) rfl ?_
    obtain ⟨hc7, h⟩ := of_grd h
    obtain ⟨M8, eM8, h⟩ := of_zlet h
    refine Z_one k_X11_readStep rfl (pc' := 206) (lo' := [some (vR 0 21 0), none, none, some (vI a3), some (vI a4)]) (st' := []) (M1 := M8) (by rw [eM8]; exact if_pos hc7) ?_
    cases h
    exact Z_ret ⟨rfl, _, rfl⟩ rfl
def f_X11_readStep_142 (r_X11_readStep : Int → AM → Option (AM)) : Nat → Int → Int → Int → AM → Option (AM)
  | 0, _, _, _, _ => none
  | n + 1, a1, a3, a4, M => if a3 = 0 then f_X11_readStep_170 r_X11_readStep a3 a4 M else (if ¬ M 0 12 = 0 then f_X11_readStep_170 r_X11_readStep a3 a4 M else ((f_X11_isEnd M).bind fun x1 => if ¬ x1.1 = 0 then f_X11_readStep_170 r_X11_readStep a3 a4 x1.2 else ((r_X11_readStep (o_add a1 1) x1.2).bind fun x2 => f_X11_readStep_142 r_X11_readStep n a1 a3 a4 x2)))
theorem e_X11_readStep_142 {Y : List (Nat × Nat)} (d : Nat) (r_X11_readStep : Int → AM → Option (AM)) (hr_X11_readStep : ∀ (a1 : Int) (M : AM) (N : AM), r_X11_readStep a1 M = some N → Ev Y (d + 8) m_X11_readStep 0 [some (vR 0 21 0), some (vI a1), none, none, none] [] M none N) : ∀ (n : Nat) (a1 : Int) (a3 : Int) (a4 : Int) (M : AM) (N : AM), f_X11_readStep_142 r_X11_readStep n a1 a3 a4 M = some N → Ev Y (d + 9) m_X11_readStep 142 [some (vR 0 21 0), some (vI a1), none, some (vI a3), some (vI a4)] [] M none N := by
  intro n
  induction n with
  | zero => intro a1 a3 a4 M N h; cases h
  | succ n ih =>
    intro a1 a3 a4 M N h
    simp only [f_X11_readStep_142] at h
    refine Z_blk k_X11_readStep 1 (pc' := 143) (lo' := [some (vR 0 21 0), some (vI a1), none, some (vI a3), some (vI a4)]) (st' := [vI a3]) (M1 := M) rfl ?_
    refine Z_if k_X11_readStep rfl 170 rfl (fun hc => ?_) (fun hc => ?_)
    · replace h := of_pos hc h
      refine Z_mask [true, false, false, true, true] (lo0 := [some (vR 0 21 0), none, none, some (vI a3), some (vI a4)]) rfl ?_
      exact e_X11_readStep_170 d r_X11_readStep hr_X11_readStep a3 a4 M _ h
    · replace h := of_neg hc h
      refine Z_blk k_X11_readStep 2 (pc' := 150) (lo' := [some (vR 0 21 0), some (vI a1), none, some (vI a3), some (vI a4)]) (st' := [vI (M 0 12)]) (M1 := M) rfl ?_
      refine Z_if k_X11_readStep rfl 170 rfl (fun hc => ?_) (fun hc => ?_)
      · replace h := of_pos hc h
        refine Z_mask [true, false, false, true, true] (lo0 := [some (vR 0 21 0), none, none, some (vI a3), some (vI a4)]) rfl ?_
        exact e_X11_readStep_170 d r_X11_readStep hr_X11_readStep a3 a4 M _ h
      · replace h := of_neg hc h
        refine Z_blk k_X11_readStep 1 (pc' := 154) (lo' := [some (vR 0 21 0), some (vI a1), none, some (vI a3), some (vI a4)]) (st' := [vR 0 21 0]) (M1 := M) rfl ?_
        obtain ⟨x1, hx1, h⟩ := Option.bind_eq_some_iff.mp h
        refine Z_callV8 k_X11_readStep k_X11_isEnd rfl rfl (l_11_198) (ci := 11) rfl [] [] rfl rfl (Nat.le_of_ble_eq_true rfl) (Nat.le_of_ble_eq_true rfl) (e_X11_isEnd (d + 7) M _ _ hx1) ?_
        refine Z_if k_X11_readStep rfl 170 rfl (fun hc => ?_) (fun hc => ?_)
        · replace h := of_pos hc h
          refine Z_mask [true, false, false, true, true] (lo0 := [some (vR 0 21 0), none, none, some (vI a3), some (vI a4)]) rfl ?_
          exact e_X11_readStep_170 d r_X11_readStep hr_X11_readStep a3 a4 x1.2 _ h
        · replace h := of_neg hc h
          refine Z_blk k_X11_readStep 4 (pc' := 164) (lo' := [some (vR 0 21 0), some (vI a1), none, some (vI a3), some (vI a4)]) (st' := [vI (o_add a1 1), vR 0 21 0]) (M1 := x1.2) rfl ?_
          obtain ⟨x2, hx2, h⟩ := Option.bind_eq_some_iff.mp h
          refine Z_callV8 k_X11_readStep k_X11_readStep rfl rfl (l_11_306) (ci := 11) rfl [vI (o_add a1 1)] [] rfl rfl (Nat.le_of_ble_eq_true rfl) (Nat.le_of_ble_eq_true rfl) (hr_X11_readStep (o_add a1 1) x1.2 _ hx2) ?_
          refine Z_blk k_X11_readStep 1 (pc' := 142) (lo' := [some (vR 0 21 0), some (vI a1), none, some (vI a3), some (vI a4)]) (st' := []) (M1 := x2) rfl ?_
          refine Z_mask [true, true, false, true, true] (lo0 := [some (vR 0 21 0), some (vI a1), none, some (vI a3), some (vI a4)]) rfl ?_
          exact ih a1 a3 a4 x2 _ h
def f_X11_readStep_83 (r_X11_readStep : Int → AM → Option (AM)) (a1 : Int) (a2 : Int) (a3 : Int) (M : AM) : Option (AM) := if M 0 12 ≤ 0 then (zlet (am_upd M 0 26 (o_add (M 0 26) 1)) fun M1 => (f_X11_advance M1).bind fun x2 => if 0 ≤ o_add 1505 (o_mul 9 (M 0 26)) ∧ o_add 1505 (o_mul 9 (M 0 26)) < 1775 then (zlet (am_upd x2 5 (Int.toNat (o_add 1505 (o_mul 9 (M 0 26)))) a2) fun M4 => (f_X11_readRest (o_add 1505 (o_mul 9 (M 0 26))) M4).bind fun x5 => (f_X11_isSign 59 x5).bind fun x6 => (f_X11_must x6.1 x6.2).bind fun x7 => f_X11_readStep_142 r_X11_readStep zB a1 a3 (o_add 1505 (o_mul 9 (M 0 26))) x7) else none) else some M
theorem e_X11_readStep_83 {Y : List (Nat × Nat)} (d : Nat) (r_X11_readStep : Int → AM → Option (AM)) (hr_X11_readStep : ∀ (a1 : Int) (M : AM) (N : AM), r_X11_readStep a1 M = some N → Ev Y (d + 8) m_X11_readStep 0 [some (vR 0 21 0), some (vI a1), none, none, none] [] M none N) (a1 : Int) (a2 : Int) (a3 : Int) (M : AM) (N : AM) (h : f_X11_readStep_83 r_X11_readStep a1 a2 a3 M = some N) : Ev Y (d + 9) m_X11_readStep 83 [some (vR 0 21 0), some (vI a1), some (vI a2), some (vI a3), none] [] M none N := by
  unfold f_X11_readStep_83 at h
  refine Z_blk k_X11_readStep 2 (pc' := 87) (lo' := [some (vR 0 21 0), some (vI a1), some (vI a2), some (vI a3), none]) (st' := [vI (M 0 12)]) (M1 := M) rfl ?_
  refine Z_if k_X11_readStep rfl 91 rfl (fun hc => ?_) (fun hc => ?_)
  · replace h := of_pos hc h
    obtain ⟨M1, eM1, h⟩ := of_zlet h
    refine Z_blk k_X11_readStep 13 (pc' := 114) (lo' := [some (vR 0 21 0), some (vI a1), some (vI a2), some (vI a3), some (vI (o_add 1505 (o_mul 9 (M 0 26))))]) (st' := []) (M1 := M1) (by rw [eM1]; rfl) ?_
    refine Z_blk k_X11_readStep 1 (pc' := 115) (lo' := [some (vR 0 21 0), some (vI a1), some (vI a2), some (vI a3), some (vI (o_add 1505 (o_mul 9 (M 0 26))))]) (st' := [vR 0 21 0]) (M1 := M1) rfl ?_
    obtain ⟨x2, hx2, h⟩ := Option.bind_eq_some_iff.mp h
    refine Z_callV8 k_X11_readStep k_X11_advance rfl rfl (l_11_214) (ci := 11) rfl [] [] rfl rfl (Nat.le_of_ble_eq_true rfl) (Nat.le_of_ble_eq_true rfl) (e_X11_advance (d + 7) M1 _ hx2) ?_
    refine Z_blk k_X11_readStep 4 (pc' := 125) (lo' := [some (vR 0 21 0), some (vI a1), some (vI a2), some (vI a3), some (vI (o_add 1505 (o_mul 9 (M 0 26))))]) (st' := [vI a2, vI (o_add 1505 (o_mul 9 (M 0 26))), vR 5 0 1775]) (M1 := x2) rfl ?_
    obtain ⟨hc3, h⟩ := of_grd h
    obtain ⟨M4, eM4, h⟩ := of_zlet h
    refine Z_one k_X11_readStep rfl (pc' := 126) (lo' := [some (vR 0 21 0), some (vI a1), some (vI a2), some (vI a3), some (vI (o_add 1505 (o_mul 9 (M 0 26))))]) (st' := []) (M1 := M4) (by rw [eM4]; exact if_pos hc3) ?_
    refine Z_blk k_X11_readStep 2 (pc' := 129) (lo' := [some (vR 0 21 0), some (vI a1), some (vI a2), some (vI a3), some (vI (o_add 1505 (o_mul 9 (M 0 26))))]) (st' := [vI (o_add 1505 (o_mul 9 (M 0 26))), vR 0 21 0]) (M1 := M4) rfl ?_
    obtain ⟨x5, hx5, h⟩ := Option.bind_eq_some_iff.mp h
    refine Z_callV8 k_X11_readStep k_X11_readRest rfl rfl (l_11_303) (ci := 11) rfl [vI (o_add 1505 (o_mul 9 (M 0 26)))] [] rfl rfl (Nat.le_of_ble_eq_true rfl) (Nat.le_of_ble_eq_true rfl) (e_X11_readRest (d + 0) (o_add 1505 (o_mul 9 (M 0 26))) M4 _ hx5) ?_
    refine Z_blk k_X11_readStep 3 (pc' := 136) (lo' := [some (vR 0 21 0), some (vI a1), some (vI a2), some (vI a3), some (vI (o_add 1505 (o_mul 9 (M 0 26))))]) (st' := [vI 59, vR 0 21 0, vR 0 21 0]) (M1 := x5) rfl ?_
    obtain ⟨x6, hx6, h⟩ := Option.bind_eq_some_iff.mp h
    refine Z_callV8 k_X11_readStep k_X11_isSign rfl rfl (l_11_288) (ci := 11) rfl [vI 59] [vR 0 21 0] rfl rfl (Nat.le_of_ble_eq_true rfl) (Nat.le_of_ble_eq_true rfl) (e_X11_isSign (d + 8) 59 x5 _ _ hx6) ?_
    obtain ⟨x7, hx7, h⟩ := Option.bind_eq_some_iff.mp h
    refine Z_callV8 k_X11_readStep k_X11_must rfl rfl (l_11_220) (ci := 11) rfl [vI x6.1] [] rfl rfl (Nat.le_of_ble_eq_true rfl) (Nat.le_of_ble_eq_true rfl) (e_X11_must (d + 6) x6.1 x6.2 _ hx7) ?_
    refine Z_mask [true, true, false, true, true] (lo0 := [some (vR 0 21 0), some (vI a1), none, some (vI a3), some (vI (o_add 1505 (o_mul 9 (M 0 26))))]) rfl ?_
    exact e_X11_readStep_142 d r_X11_readStep hr_X11_readStep zB a1 a3 (o_add 1505 (o_mul 9 (M 0 26))) x7 _ h
  · replace h := of_neg hc h
    cases h
    exact Z_ret ⟨rfl, _, rfl⟩ rfl
def f_X11_readStep_57 (r_X11_readStep : Int → AM → Option (AM)) (a1 : Int) (a2 : Int) (a3 : Int) (M : AM) : Option (AM) := if ¬ M 0 12 = 0 then f_X11_readStep_83 r_X11_readStep a1 a2 a3 M else (if a3 = 0 then f_X11_readStep_83 r_X11_readStep a1 a2 a3 M else (if ¬ a1 = 3 then f_X11_readStep_83 r_X11_readStep a1 a2 a3 M else ((f_X11_fail 7 (M 0 15) M).bind fun x1 => f_X11_readStep_83 r_X11_readStep a1 a2 a3 x1)))
theorem e_X11_readStep_57 {Y : List (Nat × Nat)} (d : Nat) (r_X11_readStep : Int → AM → Option (AM)) (hr_X11_readStep : ∀ (a1 : Int) (M : AM) (N : AM), r_X11_readStep a1 M = some N → Ev Y (d + 8) m_X11_readStep 0 [some (vR 0 21 0), some (vI a1), none, none, none] [] M none N) (a1 : Int) (a2 : Int) (a3 : Int) (M : AM) (N : AM) (h : f_X11_readStep_57 r_X11_readStep a1 a2 a3 M = some N) : Ev Y (d + 9) m_X11_readStep 57 [some (vR 0 21 0), some (vI a1), some (vI a2), some (vI a3), none] [] M none N := by
  unfold f_X11_readStep_57 at h
  refine Z_blk k_X11_readStep 2 (pc' := 61) (lo' := [some (vR 0 21 0), some (vI a1), some (vI a2), some (vI a3), none]) (st' := [vI (M 0 12)]) (M1 := M) rfl ?_
  refine Z_if k_X11_readStep rfl 83 rfl (fun hc => ?_) (fun hc => ?_)
  · replace h := of_pos hc h
    refine Z_mask [true, true, true, true, false] (lo0 := [some (vR 0 21 0), some (vI a1), some (vI a2), some (vI a3), none]) rfl ?_
    exact e_X11_readStep_83 d r_X11_readStep hr_X11_readStep a1 a2 a3 M _ h
  · replace h := of_neg hc h
    refine Z_blk k_X11_readStep 1 (pc' := 65) (lo' := [some (vR 0 21 0), some (vI a1), some (vI a2), some (vI a3), none]) (st' := [vI a3]) (M1 := M) rfl ?_
    refine Z_if k_X11_readStep rfl 83 rfl (fun hc => ?_) (fun hc => ?_)
    · replace h := of_pos hc h
      refine Z_mask [true, true, true, true, false] (lo0 := [some (vR 0 21 0), some (vI a1), some (vI a2), some (vI a3), none]) rfl ?_
      exact e_X11_readStep_83 d r_X11_readStep hr_X11_readStep a1 a2 a3 M _ h
    · replace h := of_neg hc h
      refine Z_blk k_X11_readStep 2 (pc' := 70) (lo' := [some (vR 0 21 0), some (vI a1), some (vI a2), some (vI a3), none]) (st' := [vI 3, vI a1]) (M1 := M) rfl ?_
      refine Z_icmp k_X11_readStep rfl 83 rfl (fun hc => ?_) (fun hc => ?_)
      · replace h := of_pos hc h
        refine Z_mask [true, true, true, true, false] (lo0 := [some (vR 0 21 0), some (vI a1), some (vI a2), some (vI a3), none]) rfl ?_
        exact e_X11_readStep_83 d r_X11_readStep hr_X11_readStep a1 a2 a3 M _ h
      · replace h := of_neg hc h
        refine Z_blk k_X11_readStep 4 (pc' := 80) (lo' := [some (vR 0 21 0), some (vI a1), some (vI a2), some (vI a3), none]) (st' := [vI (M 0 15), vI 7, vR 0 21 0]) (M1 := M) rfl ?_
        obtain ⟨x1, hx1, h⟩ := Option.bind_eq_some_iff.mp h
        refine Z_callV8 k_X11_readStep k_X11_fail rfl rfl (l_11_210) (ci := 11) rfl [vI 7, vI (M 0 15)] [] rfl rfl (Nat.le_of_ble_eq_true rfl) (Nat.le_of_ble_eq_true rfl) (e_X11_fail (d + 8) 7 (M 0 15) M _ hx1) ?_
        refine Z_mask [true, true, true, true, false] (lo0 := [some (vR 0 21 0), some (vI a1), some (vI a2), some (vI a3), none]) rfl ?_
        exact e_X11_readStep_83 d r_X11_readStep hr_X11_readStep a1 a2 a3 x1 _ h
def f_X11_readStep_31 (r_X11_readStep : Int → AM → Option (AM)) (a1 : Int) (a2 : Int) (a3 : Int) (M : AM) : Option (AM) := if ¬ M 0 12 = 0 then f_X11_readStep_57 r_X11_readStep a1 a2 a3 M else (if ¬ M 0 26 = 30 then f_X11_readStep_57 r_X11_readStep a1 a2 a3 M else ((f_X11_fail 6 (M 0 15) M).bind fun x1 => f_X11_readStep_57 r_X11_readStep a1 a2 a3 x1))
theorem e_X11_readStep_31 {Y : List (Nat × Nat)} (d : Nat) (r_X11_readStep : Int → AM → Option (AM)) (hr_X11_readStep : ∀ (a1 : Int) (M : AM) (N : AM), r_X11_readStep a1 M = some N → Ev Y (d + 8) m_X11_readStep 0 [some (vR 0 21 0), some (vI a1), none, none, none] [] M none N) (a1 : Int) (a2 : Int) (a3 : Int) (M : AM) (N : AM) (h : f_X11_readStep_31 r_X11_readStep a1 a2 a3 M = some N) : Ev Y (d + 9) m_X11_readStep 31 [some (vR 0 21 0), some (vI a1), some (vI a2), some (vI a3), none] [] M none N := by
  unfold f_X11_readStep_31 at h
  refine Z_blk k_X11_readStep 2 (pc' := 35) (lo' := [some (vR 0 21 0), some (vI a1), some (vI a2), some (vI a3), none]) (st' := [vI (M 0 12)]) (M1 := M) rfl ?_
  refine Z_if k_X11_readStep rfl 57 rfl (fun hc => ?_) (fun hc => ?_)
  · replace h := of_pos hc h
    refine Z_mask [true, true, true, true, false] (lo0 := [some (vR 0 21 0), some (vI a1), some (vI a2), some (vI a3), none]) rfl ?_
    exact e_X11_readStep_57 d r_X11_readStep hr_X11_readStep a1 a2 a3 M _ h
  · replace h := of_neg hc h
    refine Z_blk k_X11_readStep 3 (pc' := 44) (lo' := [some (vR 0 21 0), some (vI a1), some (vI a2), some (vI a3), none]) (st' := [vI 30, vI (M 0 26)]) (M1 := M) rfl ?_
    refine Z_icmp k_X11_readStep rfl 57 rfl (fun hc => ?_) (fun hc => ?_)
    · replace h := of_pos hc h
      refine Z_mask [true, true, true, true, false] (lo0 := [some (vR 0 21 0), some (vI a1), some (vI a2), some (vI a3), none]) rfl ?_
      exact e_X11_readStep_57 d r_X11_readStep hr_X11_readStep a1 a2 a3 M _ h
    · replace h := of_neg hc h
      refine Z_blk k_X11_readStep 4 (pc' := 54) (lo' := [some (vR 0 21 0), some (vI a1), some (vI a2), some (vI a3), none]) (st' := [vI (M 0 15), vI 6, vR 0 21 0]) (M1 := M) rfl ?_
      obtain ⟨x1, hx1, h⟩ := Option.bind_eq_some_iff.mp h
      refine Z_callV8 k_X11_readStep k_X11_fail rfl rfl (l_11_210) (ci := 11) rfl [vI 6, vI (M 0 15)] [] rfl rfl (Nat.le_of_ble_eq_true rfl) (Nat.le_of_ble_eq_true rfl) (e_X11_fail (d + 8) 6 (M 0 15) M _ hx1) ?_
      refine Z_mask [true, true, true, true, false] (lo0 := [some (vR 0 21 0), some (vI a1), some (vI a2), some (vI a3), none]) rfl ?_
      exact e_X11_readStep_57 d r_X11_readStep hr_X11_readStep a1 a2 a3 x1 _ h
def f_X11_readStep_22 (r_X11_readStep : Int → AM → Option (AM)) (a1 : Int) (a2 : Int) (s0 : Int) (M : AM) : Option (AM) := if 0 ≤ a2 then f_X11_readStep_31 r_X11_readStep a1 a2 s0 M else ((f_X11_amiss M).bind fun x1 => f_X11_readStep_31 r_X11_readStep a1 a2 s0 x1)
theorem e_X11_readStep_22 {Y : List (Nat × Nat)} (d : Nat) (r_X11_readStep : Int → AM → Option (AM)) (hr_X11_readStep : ∀ (a1 : Int) (M : AM) (N : AM), r_X11_readStep a1 M = some N → Ev Y (d + 8) m_X11_readStep 0 [some (vR 0 21 0), some (vI a1), none, none, none] [] M none N) (a1 : Int) (a2 : Int) (s0 : Int) (M : AM) (N : AM) (h : f_X11_readStep_22 r_X11_readStep a1 a2 s0 M = some N) : Ev Y (d + 9) m_X11_readStep 22 [some (vR 0 21 0), some (vI a1), some (vI a2), none, none] [vI s0] M none N := by
  unfold f_X11_readStep_22 at h
  refine Z_blk k_X11_readStep 2 (pc' := 24) (lo' := [some (vR 0 21 0), some (vI a1), some (vI a2), some (vI s0), none]) (st' := [vI a2]) (M1 := M) rfl ?_
  refine Z_if k_X11_readStep rfl 31 rfl (fun hc => ?_) (fun hc => ?_)
  · replace h := of_pos hc h
    refine Z_mask [true, true, true, true, false] (lo0 := [some (vR 0 21 0), some (vI a1), some (vI a2), some (vI s0), none]) rfl ?_
    exact e_X11_readStep_31 d r_X11_readStep hr_X11_readStep a1 a2 s0 M _ h
  · replace h := of_neg hc h
    refine Z_blk k_X11_readStep 1 (pc' := 28) (lo' := [some (vR 0 21 0), some (vI a1), some (vI a2), some (vI s0), none]) (st' := [vR 0 21 0]) (M1 := M) rfl ?_
    obtain ⟨x1, hx1, h⟩ := Option.bind_eq_some_iff.mp h
    refine Z_callV8 k_X11_readStep k_X11_amiss rfl rfl (l_11_217) (ci := 11) rfl [] [] rfl rfl (Nat.le_of_ble_eq_true rfl) (Nat.le_of_ble_eq_true rfl) (e_X11_amiss (d + 7) M _ hx1) ?_
    refine Z_mask [true, true, true, true, false] (lo0 := [some (vR 0 21 0), some (vI a1), some (vI a2), some (vI s0), none]) rfl ?_
    exact e_X11_readStep_31 d r_X11_readStep hr_X11_readStep a1 a2 s0 x1 _ h
def fo_X11_readStep (r_X11_readStep : Int → AM → Option (AM)) (a1 : Int) (M : AM) : Option (AM) := (f_X11_stepWord M).bind fun x1 => if x1.1 = 6 then f_X11_readStep_22 r_X11_readStep a1 x1.1 1 x1.2 else (if ¬ x1.1 = 7 then f_X11_readStep_22 r_X11_readStep a1 x1.1 0 x1.2 else f_X11_readStep_22 r_X11_readStep a1 x1.1 1 x1.2)
theorem eo_X11_readStep {Y : List (Nat × Nat)} (d : Nat) (r_X11_readStep : Int → AM → Option (AM)) (hr_X11_readStep : ∀ (a1 : Int) (M : AM) (N : AM), r_X11_readStep a1 M = some N → Ev Y (d + 8) m_X11_readStep 0 [some (vR 0 21 0), some (vI a1), none, none, none] [] M none N) (a1 : Int) (M : AM) (N : AM) (h : fo_X11_readStep r_X11_readStep a1 M = some N) : Ev Y (d + 9) m_X11_readStep 0 [some (vR 0 21 0), some (vI a1), none, none, none] [] M none N := by
  unfold fo_X11_readStep at h
  refine Z_blk k_X11_readStep 1 (pc' := 1) (lo' := [some (vR 0 21 0), some (vI a1), none, none, none]) (st' := [vR 0 21 0]) (M1 := M) rfl ?_
  obtain ⟨x1, hx1, h⟩ := Option.bind_eq_some_iff.mp h
  refine Z_callV8 k_X11_readStep k_X11_stepWord rfl rfl (l_11_191) (ci := 11) rfl [] [] rfl rfl (Nat.le_of_ble_eq_true rfl) (Nat.le_of_ble_eq_true rfl) (e_X11_stepWord (d + 7) M _ _ hx1) ?_
  refine Z_blk k_X11_readStep 3 (pc' := 8) (lo' := [some (vR 0 21 0), some (vI a1), some (vI x1.1), none, none]) (st' := [vI 6, vI x1.1]) (M1 := x1.2) rfl ?_
  refine Z_icmp k_X11_readStep rfl 17 rfl (fun hc => ?_) (fun hc => ?_)
  · replace h := of_pos hc h
    refine Z_blk k_X11_readStep 2 (pc' := 22) (lo' := [some (vR 0 21 0), some (vI a1), some (vI x1.1), none, none]) (st' := [vI 1]) (M1 := x1.2) rfl ?_
    refine Z_mask [true, true, true, false, false] (lo0 := [some (vR 0 21 0), some (vI a1), some (vI x1.1), none, none]) rfl ?_
    exact e_X11_readStep_22 d r_X11_readStep hr_X11_readStep a1 x1.1 1 x1.2 _ h
  · replace h := of_neg hc h
    refine Z_blk k_X11_readStep 2 (pc' := 14) (lo' := [some (vR 0 21 0), some (vI a1), some (vI x1.1), none, none]) (st' := [vI 7, vI x1.1]) (M1 := x1.2) rfl ?_
    refine Z_icmp k_X11_readStep rfl 21 rfl (fun hc => ?_) (fun hc => ?_)
    · replace h := of_pos hc h
      refine Z_blk k_X11_readStep 1 (pc' := 22) (lo' := [some (vR 0 21 0), some (vI a1), some (vI x1.1), none, none]) (st' := [vI 0]) (M1 := x1.2) rfl ?_
      refine Z_mask [true, true, true, false, false] (lo0 := [some (vR 0 21 0), some (vI a1), some (vI x1.1), none, none]) rfl ?_
      exact e_X11_readStep_22 d r_X11_readStep hr_X11_readStep a1 x1.1 0 x1.2 _ h
    · replace h := of_neg hc h
      refine Z_blk k_X11_readStep 2 (pc' := 22) (lo' := [some (vR 0 21 0), some (vI a1), some (vI x1.1), none, none]) (st' := [vI 1]) (M1 := x1.2) rfl ?_
      refine Z_mask [true, true, true, false, false] (lo0 := [some (vR 0 21 0), some (vI a1), some (vI x1.1), none, none]) rfl ?_
      exact e_X11_readStep_22 d r_X11_readStep hr_X11_readStep a1 x1.1 1 x1.2 _ h
def fc_X11_readStep : Nat → Int → AM → Option (AM)
  | 0, _, _ => none
  | n + 1, a1, M => fo_X11_readStep (fc_X11_readStep n) a1 M
theorem ec_X11_readStep {Y : List (Nat × Nat)} (d : Nat) : ∀ (n : Nat) (a1 : Int) (M : AM) (N : AM), fc_X11_readStep n a1 M = some N → Ev Y (d + 1 * n + 8) m_X11_readStep 0 [some (vR 0 21 0), some (vI a1), none, none, none] [] M none N := by
  intro n
  induction n with
  | zero => intro a1 M N h; cases h
  | succ n ih =>
    intro a1 M N h
    simp only [fc_X11_readStep] at h
    exact Ev_cast (by omega) (eo_X11_readStep (d + n) (fc_X11_readStep n) (fun a1 M N h => Ev_cast (by omega) (ih a1 M N h)) a1 M _ h)
def f_X11_readStep (a1 : Int) (M : AM) : Option (AM) := fc_X11_readStep 6 a1 M
theorem e_X11_readStep {Y : List (Nat × Nat)} (d : Nat) (a1 : Int) (M : AM) (N : AM) (h : f_X11_readStep a1 M = some N) : Ev Y (d + 14) m_X11_readStep 0 [some (vR 0 21 0), some (vI a1), none, none, none] [] M none N := Ev_cast (by omega) (ec_X11_readStep d 6 a1 M _ h)
