def f_X11_heardIn_4 : Nat → Int → Int → Int → AM → Option (Int × AM)
  | 0, _, _, _, _ => none
  | n + 1, a1, a2, a3, M => if M 5 (Int.toNat 0) ≤ a3 then some (a2, M) else ((f_X11_isHeard a1 a3 M).bind fun x1 => if x1.1 = 0 then f_X11_heardIn_4 n a1 (o_or a2 0) (o_add a3 1) x1.2 else f_X11_heardIn_4 n a1 (o_or a2 (o_shl 1 a3)) (o_add a3 1) x1.2)
theorem e_X11_heardIn_4 {Y : List (Nat × Nat)} (d : Nat) : ∀ (n : Nat) (a1 : Int) (a2 : Int) (a3 : Int) (M : AM) (x : Int) (N : AM), f_X11_heardIn_4 n a1 a2 a3 M = some (x, N) → Ev Y (d + 2) m_X11_heardIn 4 [some (vR 0 21 0), some (vI a1), some (vI a2), some (vI a3)] [] M (some (vI x)) N := by
  intro n
  induction n with
  | zero => intro a1 a2 a3 M x N h; cases h
  | succ n ih =>
    intro a1 a2 a3 M x N h
    simp only [f_X11_heardIn_4] at h
    refine Z_blk k_X11_heardIn 4 (pc' := 10) (lo' := [some (vR 0 21 0), some (vI a1), some (vI a2), some (vI a3)]) (st' := [vI 0, vR 5 0 1775, vI a3]) (M1 := M) rfl ?_
    refine Z_one k_X11_heardIn rfl (pc' := 11) (lo' := [some (vR 0 21 0), some (vI a1), some (vI a2), some (vI a3)]) (st' := [vI (M 5 (Int.toNat 0)), vI a3]) (M1 := M) (rfl) ?_
    refine Z_icmp k_X11_heardIn rfl 39 rfl (fun hc => ?_) (fun hc => ?_)
    · replace h := of_pos hc h
      refine Z_blk k_X11_heardIn 1 (pc' := 40) (lo' := [some (vR 0 21 0), some (vI a1), some (vI a2), some (vI a3)]) (st' := [vI a2]) (M1 := M) rfl ?_
      cases h
      exact Z_ret ⟨Or.inl rfl, _, rfl⟩ rfl
    · replace h := of_neg hc h
      refine Z_blk k_X11_heardIn 4 (pc' := 18) (lo' := [some (vR 0 21 0), some (vI a1), some (vI a2), some (vI a3)]) (st' := [vI a3, vI a1, vR 0 21 0, vI a2]) (M1 := M) rfl ?_
      obtain ⟨x1, hx1, h⟩ := Option.bind_eq_some_iff.mp h
      refine Z_callV8 k_X11_heardIn k_X11_isHeard rfl rfl (l_11_315) (ci := 11) rfl [vI a1, vI a3] [vI a2] rfl rfl (Nat.le_of_ble_eq_true rfl) (Nat.le_of_ble_eq_true rfl) (e_X11_isHeard (d + 0) a1 a3 M _ _ hx1) ?_
      refine Z_if k_X11_heardIn rfl 30 rfl (fun hc => ?_) (fun hc => ?_)
      · replace h := of_pos hc h
        refine Z_blk k_X11_heardIn 5 (pc' := 4) (lo' := [some (vR 0 21 0), some (vI a1), some (vI (o_or a2 0)), some (vI (o_add a3 1))]) (st' := []) (M1 := x1.2) rfl ?_
        refine Z_mask [true, true, true, true] (lo0 := [some (vR 0 21 0), some (vI a1), some (vI (o_or a2 0)), some (vI (o_add a3 1))]) rfl ?_
        exact ih a1 (o_or a2 0) (o_add a3 1) x1.2 _ _ h
      · replace h := of_neg hc h
        refine Z_blk k_X11_heardIn 8 (pc' := 4) (lo' := [some (vR 0 21 0), some (vI a1), some (vI (o_or a2 (o_shl 1 a3))), some (vI (o_add a3 1))]) (st' := []) (M1 := x1.2) rfl ?_
        refine Z_mask [true, true, true, true] (lo0 := [some (vR 0 21 0), some (vI a1), some (vI (o_or a2 (o_shl 1 a3))), some (vI (o_add a3 1))]) rfl ?_
        exact ih a1 (o_or a2 (o_shl 1 a3)) (o_add a3 1) x1.2 _ _ h
def f_X11_heardIn (a1 : Int) (M : AM) : Option (Int × AM) := f_X11_heardIn_4 zB a1 0 0 M
theorem e_X11_heardIn {Y : List (Nat × Nat)} (d : Nat) (a1 : Int) (M : AM) (x : Int) (N : AM) (h : f_X11_heardIn a1 M = some (x, N)) : Ev Y (d + 2) m_X11_heardIn 0 [some (vR 0 21 0), some (vI a1), none, none] [] M (some (vI x)) N := by
  unfold f_X11_heardIn at h
  refine Z_blk k_X11_heardIn 4 (pc' := 4) (lo' := [some (vR 0 21 0), some (vI a1), some (vI 0), some (vI 0)]) (st' := []) (M1 := M) rfl ?_
  refine Z_mask [true, true, true, true] (lo0 := [some (vR 0 21 0), some (vI a1), some (vI 0), some (vI 0)]) rfl ?_
  exact e_X11_heardIn_4 d zB a1 0 0 M _ _ h
theorem l_11_382 : zhas 8063 (Jvm.Cond.methodLink "BellPullHouseModel" 382 yX11_heardIn) = true := by decide +kernel
def f_X11_heard (a1 : Int) (M : AM) : Option (Int × AM) := zlet (am_upd M 0 1 0) fun M1 => zlet (am_upd M1 0 0 0) fun M2 => (f_X11_isRoomAt a1 M2).bind fun x3 => if ¬ x3.1 = 0 then ((f_X11_laysFar x3.2).bind fun x4 => (f_X11_heardIn a1 x4).bind fun x5 => some (x5.1, x5.2)) else ((f_X11_refuse 2 x3.2).bind fun x6 => some (x6.1, x6.2))
theorem e_X11_heard {Y : List (Nat × Nat)} (d : Nat) (a1 : Int) (M : AM) (x : Int) (N : AM) (h : f_X11_heard a1 M = some (x, N)) : Ev Y (d + 3) m_X11_heard 0 [some (vR 0 21 0), some (vI a1)] [] M (some (vI x)) N := by
  unfold f_X11_heard at h
  obtain ⟨M1, eM1, h⟩ := of_zlet h
  refine Z_blk k_X11_heard 3 (pc' := 5) (lo' := [some (vR 0 21 0), some (vI a1)]) (st' := []) (M1 := M1) (by rw [eM1]; rfl) ?_
  obtain ⟨M2, eM2, h⟩ := of_zlet h
  refine Z_blk k_X11_heard 3 (pc' := 10) (lo' := [some (vR 0 21 0), some (vI a1)]) (st' := []) (M1 := M2) (by rw [eM2]; rfl) ?_
  refine Z_blk k_X11_heard 2 (pc' := 12) (lo' := [some (vR 0 21 0), some (vI a1)]) (st' := [vI a1, vR 0 21 0]) (M1 := M2) rfl ?_
  obtain ⟨x3, hx3, h⟩ := Option.bind_eq_some_iff.mp h
  refine Z_callV8 k_X11_heard k_X11_isRoomAt rfl rfl (l_11_375) (ci := 11) rfl [vI a1] [] rfl rfl (Nat.le_of_ble_eq_true rfl) (Nat.le_of_ble_eq_true rfl) (e_X11_isRoomAt (d + 1) a1 M2 _ _ hx3) ?_
  refine Z_if k_X11_heard rfl 24 rfl (fun hc => ?_) (fun hc => ?_)
  · replace h := of_pos hc h
    refine Z_blk k_X11_heard 1 (pc' := 25) (lo' := [some (vR 0 21 0), some (vI a1)]) (st' := [vR 0 21 0]) (M1 := x3.2) rfl ?_
    obtain ⟨x4, hx4, h⟩ := Option.bind_eq_some_iff.mp h
    refine Z_callV8 k_X11_heard k_X11_laysFar rfl rfl (l_11_318) (ci := 11) rfl [] [] rfl rfl (Nat.le_of_ble_eq_true rfl) (Nat.le_of_ble_eq_true rfl) (e_X11_laysFar (d + 2) x3.2 _ hx4) ?_
    refine Z_blk k_X11_heard 2 (pc' := 30) (lo' := [some (vR 0 21 0), some (vI a1)]) (st' := [vI a1, vR 0 21 0]) (M1 := x4) rfl ?_
    obtain ⟨x5, hx5, h⟩ := Option.bind_eq_some_iff.mp h
    refine Z_callV8 k_X11_heard k_X11_heardIn rfl rfl (l_11_382) (ci := 11) rfl [vI a1] [] rfl rfl (Nat.le_of_ble_eq_true rfl) (Nat.le_of_ble_eq_true rfl) (e_X11_heardIn (d + 0) a1 x4 _ _ hx5) ?_
    cases h
    exact Z_ret ⟨Or.inl rfl, _, rfl⟩ rfl
  · replace h := of_neg hc h
    refine Z_blk k_X11_heard 2 (pc' := 20) (lo' := [some (vR 0 21 0), some (vI a1)]) (st' := [vI 2, vR 0 21 0]) (M1 := x3.2) rfl ?_
    obtain ⟨x6, hx6, h⟩ := Option.bind_eq_some_iff.mp h
    refine Z_callV8 k_X11_heard k_X11_refuse rfl rfl (l_11_326) (ci := 11) rfl [vI 2] [] rfl rfl (Nat.le_of_ble_eq_true rfl) (Nat.le_of_ble_eq_true rfl) (e_X11_refuse (d + 2) 2 x3.2 _ _ hx6) ?_
    cases h
    exact Z_ret ⟨Or.inl rfl, _, rfl⟩ rfl
def f_X11_rings_32 : Nat → Int → Int → Int → AM → Option (Int × AM)
  | 0, _, _, _, _ => none
  | n + 1, a1, a2, a3, M => if M 5 (Int.toNat 2) ≤ a3 then some (a2, M) else (if 0 ≤ o_add 47 a1 ∧ o_add 47 a1 < 1775 then (if 0 ≤ o_add 53 a3 ∧ o_add 53 a3 < 1775 then ((f_X11_isHeard (M 5 (Int.toNat (o_add 47 a1))) (M 5 (Int.toNat (o_add 53 a3))) M).bind fun x3 => if x3.1 = 0 then f_X11_rings_32 n a1 (o_or a2 0) (o_add a3 1) x3.2 else f_X11_rings_32 n a1 (o_or a2 (o_shl 1 a3)) (o_add a3 1) x3.2) else none) else none)
theorem e_X11_rings_32 {Y : List (Nat × Nat)} (d : Nat) : ∀ (n : Nat) (a1 : Int) (a2 : Int) (a3 : Int) (M : AM) (x : Int) (N : AM), f_X11_rings_32 n a1 a2 a3 M = some (x, N) → Ev Y (d + 2) m_X11_rings 32 [some (vR 0 21 0), some (vI a1), some (vI a2), some (vI a3)] [] M (some (vI x)) N := by
  intro n
  induction n with
  | zero => intro a1 a2 a3 M x N h; cases h
  | succ n ih =>
    intro a1 a2 a3 M x N h
    simp only [f_X11_rings_32] at h
    refine Z_blk k_X11_rings 4 (pc' := 38) (lo' := [some (vR 0 21 0), some (vI a1), some (vI a2), some (vI a3)]) (st' := [vI 2, vR 5 0 1775, vI a3]) (M1 := M) rfl ?_
    refine Z_one k_X11_rings rfl (pc' := 39) (lo' := [some (vR 0 21 0), some (vI a1), some (vI a2), some (vI a3)]) (st' := [vI (M 5 (Int.toNat 2)), vI a3]) (M1 := M) (rfl) ?_
    refine Z_icmp k_X11_rings rfl 83 rfl (fun hc => ?_) (fun hc => ?_)
    · replace h := of_pos hc h
      refine Z_blk k_X11_rings 1 (pc' := 84) (lo' := [some (vR 0 21 0), some (vI a1), some (vI a2), some (vI a3)]) (st' := [vI a2]) (M1 := M) rfl ?_
      cases h
      exact Z_ret ⟨Or.inl rfl, _, rfl⟩ rfl
    · replace h := of_neg hc h
      refine Z_blk k_X11_rings 7 (pc' := 52) (lo' := [some (vR 0 21 0), some (vI a1), some (vI a2), some (vI a3)]) (st' := [vI (o_add 47 a1), vR 5 0 1775, vR 0 21 0, vI a2]) (M1 := M) rfl ?_
      obtain ⟨hc1, h⟩ := of_grd h
      refine Z_one k_X11_rings rfl (pc' := 53) (lo' := [some (vR 0 21 0), some (vI a1), some (vI a2), some (vI a3)]) (st' := [vI (M 5 (Int.toNat (o_add 47 a1))), vR 0 21 0, vI a2]) (M1 := M) (if_pos hc1) ?_
      refine Z_blk k_X11_rings 5 (pc' := 61) (lo' := [some (vR 0 21 0), some (vI a1), some (vI a2), some (vI a3)]) (st' := [vI (o_add 53 a3), vR 5 0 1775, vI (M 5 (Int.toNat (o_add 47 a1))), vR 0 21 0, vI a2]) (M1 := M) rfl ?_
      obtain ⟨hc2, h⟩ := of_grd h
      refine Z_one k_X11_rings rfl (pc' := 62) (lo' := [some (vR 0 21 0), some (vI a1), some (vI a2), some (vI a3)]) (st' := [vI (M 5 (Int.toNat (o_add 53 a3))), vI (M 5 (Int.toNat (o_add 47 a1))), vR 0 21 0, vI a2]) (M1 := M) (if_pos hc2) ?_
      obtain ⟨x3, hx3, h⟩ := Option.bind_eq_some_iff.mp h
      refine Z_callV8 k_X11_rings k_X11_isHeard rfl rfl (l_11_315) (ci := 11) rfl [vI (M 5 (Int.toNat (o_add 47 a1))), vI (M 5 (Int.toNat (o_add 53 a3)))] [vI a2] rfl rfl (Nat.le_of_ble_eq_true rfl) (Nat.le_of_ble_eq_true rfl) (e_X11_isHeard (d + 0) (M 5 (Int.toNat (o_add 47 a1))) (M 5 (Int.toNat (o_add 53 a3))) M _ _ hx3) ?_
      refine Z_if k_X11_rings rfl 74 rfl (fun hc => ?_) (fun hc => ?_)
      · replace h := of_pos hc h
        refine Z_blk k_X11_rings 5 (pc' := 32) (lo' := [some (vR 0 21 0), some (vI a1), some (vI (o_or a2 0)), some (vI (o_add a3 1))]) (st' := []) (M1 := x3.2) rfl ?_
        refine Z_mask [true, true, true, true] (lo0 := [some (vR 0 21 0), some (vI a1), some (vI (o_or a2 0)), some (vI (o_add a3 1))]) rfl ?_
        exact ih a1 (o_or a2 0) (o_add a3 1) x3.2 _ _ h
      · replace h := of_neg hc h
        refine Z_blk k_X11_rings 8 (pc' := 32) (lo' := [some (vR 0 21 0), some (vI a1), some (vI (o_or a2 (o_shl 1 a3))), some (vI (o_add a3 1))]) (st' := []) (M1 := x3.2) rfl ?_
        refine Z_mask [true, true, true, true] (lo0 := [some (vR 0 21 0), some (vI a1), some (vI (o_or a2 (o_shl 1 a3))), some (vI (o_add a3 1))]) rfl ?_
        exact ih a1 (o_or a2 (o_shl 1 a3)) (o_add a3 1) x3.2 _ _ h
def f_X11_rings (a1 : Int) (M : AM) : Option (Int × AM) := zlet (am_upd M 0 1 0) fun M1 => zlet (am_upd M1 0 0 0) fun M2 => (f_X11_isCoupleAt a1 M2).bind fun x3 => if ¬ x3.1 = 0 then ((f_X11_laysFar x3.2).bind fun x4 => f_X11_rings_32 zB a1 0 0 x4) else ((f_X11_refuse 2 x3.2).bind fun x5 => some (x5.1, x5.2))
theorem e_X11_rings {Y : List (Nat × Nat)} (d : Nat) (a1 : Int) (M : AM) (x : Int) (N : AM) (h : f_X11_rings a1 M = some (x, N)) : Ev Y (d + 2) m_X11_rings 0 [some (vR 0 21 0), some (vI a1), none, none] [] M (some (vI x)) N := by
  unfold f_X11_rings at h
  obtain ⟨M1, eM1, h⟩ := of_zlet h
  refine Z_blk k_X11_rings 3 (pc' := 5) (lo' := [some (vR 0 21 0), some (vI a1), none, none]) (st' := []) (M1 := M1) (by rw [eM1]; rfl) ?_
  obtain ⟨M2, eM2, h⟩ := of_zlet h
  refine Z_blk k_X11_rings 3 (pc' := 10) (lo' := [some (vR 0 21 0), some (vI a1), none, none]) (st' := []) (M1 := M2) (by rw [eM2]; rfl) ?_
  refine Z_blk k_X11_rings 2 (pc' := 12) (lo' := [some (vR 0 21 0), some (vI a1), none, none]) (st' := [vI a1, vR 0 21 0]) (M1 := M2) rfl ?_
  obtain ⟨x3, hx3, h⟩ := Option.bind_eq_some_iff.mp h
  refine Z_callV8 k_X11_rings k_X11_isCoupleAt rfl rfl (l_11_341) (ci := 11) rfl [vI a1] [] rfl rfl (Nat.le_of_ble_eq_true rfl) (Nat.le_of_ble_eq_true rfl) (e_X11_isCoupleAt (d + 0) a1 M2 _ _ hx3) ?_
  refine Z_if k_X11_rings rfl 24 rfl (fun hc => ?_) (fun hc => ?_)
  · replace h := of_pos hc h
    refine Z_blk k_X11_rings 1 (pc' := 25) (lo' := [some (vR 0 21 0), some (vI a1), none, none]) (st' := [vR 0 21 0]) (M1 := x3.2) rfl ?_
    obtain ⟨x4, hx4, h⟩ := Option.bind_eq_some_iff.mp h
    refine Z_callV8 k_X11_rings k_X11_laysFar rfl rfl (l_11_318) (ci := 11) rfl [] [] rfl rfl (Nat.le_of_ble_eq_true rfl) (Nat.le_of_ble_eq_true rfl) (e_X11_laysFar (d + 1) x3.2 _ hx4) ?_
    refine Z_blk k_X11_rings 4 (pc' := 32) (lo' := [some (vR 0 21 0), some (vI a1), some (vI 0), some (vI 0)]) (st' := []) (M1 := x4) rfl ?_
    refine Z_mask [true, true, true, true] (lo0 := [some (vR 0 21 0), some (vI a1), some (vI 0), some (vI 0)]) rfl ?_
    exact e_X11_rings_32 d zB a1 0 0 x4 _ _ h
  · replace h := of_neg hc h
    refine Z_blk k_X11_rings 2 (pc' := 20) (lo' := [some (vR 0 21 0), some (vI a1), none, none]) (st' := [vI 2, vR 0 21 0]) (M1 := x3.2) rfl ?_
    obtain ⟨x5, hx5, h⟩ := Option.bind_eq_some_iff.mp h
    refine Z_callV8 k_X11_rings k_X11_refuse rfl rfl (l_11_326) (ci := 11) rfl [vI 2] [] rfl rfl (Nat.le_of_ble_eq_true rfl) (Nat.le_of_ble_eq_true rfl) (e_X11_refuse (d + 1) 2 x3.2 _ _ hx5) ?_
    cases h
    exact Z_ret ⟨Or.inl rfl, _, rfl⟩ rfl
def f_X11_answers (a1 : Int) (M : AM) : Option (Int × AM) := zlet (am_upd M 0 1 0) fun M1 => zlet (am_upd M1 0 0 0) fun M2 => (f_X11_isCoupleAt a1 M2).bind fun x3 => if ¬ x3.1 = 0 then ((f_X11_laysFar x3.2).bind fun x4 => (f_X11_answerOf a1 x4).bind fun x5 => if 0 ≤ x5.1 then (if 0 ≤ o_add 65 a1 ∧ o_add 65 a1 < 1775 then (if ¬ x5.2 5 (Int.toNat (o_add 65 a1)) = 0 then some (x5.1, x5.2) else ((f_X11_refuse 9 x5.2).bind fun x7 => some (x7.1, x7.2))) else none) else ((f_X11_refuse 8 x5.2).bind fun x8 => some (x8.1, x8.2))) else ((f_X11_refuse 2 x3.2).bind fun x9 => some (x9.1, x9.2))
theorem e_X11_answers {Y : List (Nat × Nat)} (d : Nat) (a1 : Int) (M : AM) (x : Int) (N : AM) (h : f_X11_answers a1 M = some (x, N)) : Ev Y (d + 3) m_X11_answers 0 [some (vR 0 21 0), some (vI a1), none] [] M (some (vI x)) N := by
  unfold f_X11_answers at h
  obtain ⟨M1, eM1, h⟩ := of_zlet h
  refine Z_blk k_X11_answers 3 (pc' := 5) (lo' := [some (vR 0 21 0), some (vI a1), none]) (st' := []) (M1 := M1) (by rw [eM1]; rfl) ?_
  obtain ⟨M2, eM2, h⟩ := of_zlet h
  refine Z_blk k_X11_answers 3 (pc' := 10) (lo' := [some (vR 0 21 0), some (vI a1), none]) (st' := []) (M1 := M2) (by rw [eM2]; rfl) ?_
  refine Z_blk k_X11_answers 2 (pc' := 12) (lo' := [some (vR 0 21 0), some (vI a1), none]) (st' := [vI a1, vR 0 21 0]) (M1 := M2) rfl ?_
  obtain ⟨x3, hx3, h⟩ := Option.bind_eq_some_iff.mp h
  refine Z_callV8 k_X11_answers k_X11_isCoupleAt rfl rfl (l_11_341) (ci := 11) rfl [vI a1] [] rfl rfl (Nat.le_of_ble_eq_true rfl) (Nat.le_of_ble_eq_true rfl) (e_X11_isCoupleAt (d + 1) a1 M2 _ _ hx3) ?_
  refine Z_if k_X11_answers rfl 24 rfl (fun hc => ?_) (fun hc => ?_)
  · replace h := of_pos hc h
    refine Z_blk k_X11_answers 1 (pc' := 25) (lo' := [some (vR 0 21 0), some (vI a1), none]) (st' := [vR 0 21 0]) (M1 := x3.2) rfl ?_
    obtain ⟨x4, hx4, h⟩ := Option.bind_eq_some_iff.mp h
    refine Z_callV8 k_X11_answers k_X11_laysFar rfl rfl (l_11_318) (ci := 11) rfl [] [] rfl rfl (Nat.le_of_ble_eq_true rfl) (Nat.le_of_ble_eq_true rfl) (e_X11_laysFar (d + 2) x3.2 _ hx4) ?_
    refine Z_blk k_X11_answers 2 (pc' := 30) (lo' := [some (vR 0 21 0), some (vI a1), none]) (st' := [vI a1, vR 0 21 0]) (M1 := x4) rfl ?_
    obtain ⟨x5, hx5, h⟩ := Option.bind_eq_some_iff.mp h
    refine Z_callV8 k_X11_answers k_X11_answerOf rfl rfl (l_11_353) (ci := 11) rfl [vI a1] [] rfl rfl (Nat.le_of_ble_eq_true rfl) (Nat.le_of_ble_eq_true rfl) (e_X11_answerOf (d + 0) a1 x4 _ _ hx5) ?_
    refine Z_blk k_X11_answers 2 (pc' := 35) (lo' := [some (vR 0 21 0), some (vI a1), some (vI x5.1)]) (st' := [vI x5.1]) (M1 := x5.2) rfl ?_
    refine Z_if k_X11_answers rfl 47 rfl (fun hc => ?_) (fun hc => ?_)
    · replace h := of_pos hc h
      refine Z_blk k_X11_answers 5 (pc' := 55) (lo' := [some (vR 0 21 0), some (vI a1), some (vI x5.1)]) (st' := [vI (o_add 65 a1), vR 5 0 1775]) (M1 := x5.2) rfl ?_
      obtain ⟨hc6, h⟩ := of_grd h
      refine Z_one k_X11_answers rfl (pc' := 56) (lo' := [some (vR 0 21 0), some (vI a1), some (vI x5.1)]) (st' := [vI (x5.2 5 (Int.toNat (o_add 65 a1)))]) (M1 := x5.2) (if_pos hc6) ?_
      refine Z_if k_X11_answers rfl 68 rfl (fun hc => ?_) (fun hc => ?_)
      · replace h := of_pos hc h
        refine Z_blk k_X11_answers 1 (pc' := 69) (lo' := [some (vR 0 21 0), some (vI a1), some (vI x5.1)]) (st' := [vI x5.1]) (M1 := x5.2) rfl ?_
        cases h
        exact Z_ret ⟨Or.inl rfl, _, rfl⟩ rfl
      · replace h := of_neg hc h
        refine Z_blk k_X11_answers 2 (pc' := 62) (lo' := [some (vR 0 21 0), some (vI a1), some (vI x5.1)]) (st' := [vI 9, vR 0 21 0]) (M1 := x5.2) rfl ?_
        obtain ⟨x7, hx7, h⟩ := Option.bind_eq_some_iff.mp h
        refine Z_callV8 k_X11_answers k_X11_refuse rfl rfl (l_11_326) (ci := 11) rfl [vI 9] [] rfl rfl (Nat.le_of_ble_eq_true rfl) (Nat.le_of_ble_eq_true rfl) (e_X11_refuse (d + 2) 9 x5.2 _ _ hx7) ?_
        refine Z_blk k_X11_answers 1 (pc' := 69) (lo' := [some (vR 0 21 0), some (vI a1), some (vI x5.1)]) (st' := [vI x7.1]) (M1 := x7.2) rfl ?_
        cases h
        exact Z_ret ⟨Or.inl rfl, _, rfl⟩ rfl
    · replace h := of_neg hc h
      refine Z_blk k_X11_answers 2 (pc' := 41) (lo' := [some (vR 0 21 0), some (vI a1), some (vI x5.1)]) (st' := [vI 8, vR 0 21 0]) (M1 := x5.2) rfl ?_
      obtain ⟨x8, hx8, h⟩ := Option.bind_eq_some_iff.mp h
      refine Z_callV8 k_X11_answers k_X11_refuse rfl rfl (l_11_326) (ci := 11) rfl [vI 8] [] rfl rfl (Nat.le_of_ble_eq_true rfl) (Nat.le_of_ble_eq_true rfl) (e_X11_refuse (d + 2) 8 x5.2 _ _ hx8) ?_
      refine Z_blk k_X11_answers 1 (pc' := 69) (lo' := [some (vR 0 21 0), some (vI a1), some (vI x5.1)]) (st' := [vI x8.1]) (M1 := x8.2) rfl ?_
      cases h
      exact Z_ret ⟨Or.inl rfl, _, rfl⟩ rfl
  · replace h := of_neg hc h
    refine Z_blk k_X11_answers 2 (pc' := 20) (lo' := [some (vR 0 21 0), some (vI a1), none]) (st' := [vI 2, vR 0 21 0]) (M1 := x3.2) rfl ?_
    obtain ⟨x9, hx9, h⟩ := Option.bind_eq_some_iff.mp h
    refine Z_callV8 k_X11_answers k_X11_refuse rfl rfl (l_11_326) (ci := 11) rfl [vI 2] [] rfl rfl (Nat.le_of_ble_eq_true rfl) (Nat.le_of_ble_eq_true rfl) (e_X11_refuse (d + 2) 2 x3.2 _ _ hx9) ?_
    cases h
    exact Z_ret ⟨Or.inl rfl, _, rfl⟩ rfl
def f_X11_joins_39 (a1 : Int) (a2 : Int) (a3 : Int) (M : AM) : Option (Int × AM) := if 0 ≤ o_add 7 a1 ∧ o_add 7 a1 < 1775 then (if ¬ M 5 (Int.toNat (o_add 7 a1)) = a3 then some (0, M) else (if 0 ≤ o_add 17 a1 ∧ o_add 17 a1 < 1775 then (if ¬ M 5 (Int.toNat (o_add 17 a1)) = a2 then some (0, M) else some (1, M)) else none)) else none
theorem e_X11_joins_39 {Y : List (Nat × Nat)} (d : Nat) (a1 : Int) (a2 : Int) (a3 : Int) (M : AM) (x : Int) (N : AM) (h : f_X11_joins_39 a1 a2 a3 M = some (x, N)) : Ev Y (d + 0) m_X11_joins 39 [some (vR 0 21 0), some (vI a1), some (vI a2), some (vI a3)] [] M (some (vI x)) N := by
  unfold f_X11_joins_39 at h
  refine Z_blk k_X11_joins 5 (pc' := 47) (lo' := [some (vR 0 21 0), some (vI a1), some (vI a2), some (vI a3)]) (st' := [vI (o_add 7 a1), vR 5 0 1775]) (M1 := M) rfl ?_
  obtain ⟨hc1, h⟩ := of_grd h
  refine Z_one k_X11_joins rfl (pc' := 48) (lo' := [some (vR 0 21 0), some (vI a1), some (vI a2), some (vI a3)]) (st' := [vI (M 5 (Int.toNat (o_add 7 a1)))]) (M1 := M) (if_pos hc1) ?_
  refine Z_blk k_X11_joins 1 (pc' := 49) (lo' := [some (vR 0 21 0), some (vI a1), some (vI a2), some (vI a3)]) (st' := [vI a3, vI (M 5 (Int.toNat (o_add 7 a1)))]) (M1 := M) rfl ?_
  refine Z_icmp k_X11_joins rfl 69 rfl (fun hc => ?_) (fun hc => ?_)
  · replace h := of_pos hc h
    refine Z_blk k_X11_joins 1 (pc' := 70) (lo' := [some (vR 0 21 0), some (vI a1), some (vI a2), some (vI a3)]) (st' := [vI 0]) (M1 := M) rfl ?_
    cases h
    exact Z_ret ⟨Or.inr ⟨rfl, Or.inl rfl⟩, _, rfl⟩ rfl
  · replace h := of_neg hc h
    refine Z_blk k_X11_joins 5 (pc' := 60) (lo' := [some (vR 0 21 0), some (vI a1), some (vI a2), some (vI a3)]) (st' := [vI (o_add 17 a1), vR 5 0 1775]) (M1 := M) rfl ?_
    obtain ⟨hc2, h⟩ := of_grd h
    refine Z_one k_X11_joins rfl (pc' := 61) (lo' := [some (vR 0 21 0), some (vI a1), some (vI a2), some (vI a3)]) (st' := [vI (M 5 (Int.toNat (o_add 17 a1)))]) (M1 := M) (if_pos hc2) ?_
    refine Z_blk k_X11_joins 1 (pc' := 62) (lo' := [some (vR 0 21 0), some (vI a1), some (vI a2), some (vI a3)]) (st' := [vI a2, vI (M 5 (Int.toNat (o_add 17 a1)))]) (M1 := M) rfl ?_
    refine Z_icmp k_X11_joins rfl 69 rfl (fun hc => ?_) (fun hc => ?_)
    · replace h := of_pos hc h
      refine Z_blk k_X11_joins 1 (pc' := 70) (lo' := [some (vR 0 21 0), some (vI a1), some (vI a2), some (vI a3)]) (st' := [vI 0]) (M1 := M) rfl ?_
      cases h
      exact Z_ret ⟨Or.inr ⟨rfl, Or.inl rfl⟩, _, rfl⟩ rfl
    · replace h := of_neg hc h
      refine Z_blk k_X11_joins 2 (pc' := 70) (lo' := [some (vR 0 21 0), some (vI a1), some (vI a2), some (vI a3)]) (st' := [vI 1]) (M1 := M) rfl ?_
      cases h
      exact Z_ret ⟨Or.inr ⟨rfl, Or.inr rfl⟩, _, rfl⟩ rfl
def f_X11_joins (a1 : Int) (a2 : Int) (a3 : Int) (M : AM) : Option (Int × AM) := if 0 ≤ o_add 37 a1 ∧ o_add 37 a1 < 1775 then (if ¬ M 5 (Int.toNat (o_add 37 a1)) = 1 then some (0, M) else (if 0 ≤ o_add 7 a1 ∧ o_add 7 a1 < 1775 then (if ¬ M 5 (Int.toNat (o_add 7 a1)) = a2 then f_X11_joins_39 a1 a2 a3 M else (if 0 ≤ o_add 17 a1 ∧ o_add 17 a1 < 1775 then (if M 5 (Int.toNat (o_add 17 a1)) = a3 then some (1, M) else f_X11_joins_39 a1 a2 a3 M) else none)) else none)) else none
theorem e_X11_joins {Y : List (Nat × Nat)} (d : Nat) (a1 : Int) (a2 : Int) (a3 : Int) (M : AM) (x : Int) (N : AM) (h : f_X11_joins a1 a2 a3 M = some (x, N)) : Ev Y (d + 0) m_X11_joins 0 [some (vR 0 21 0), some (vI a1), some (vI a2), some (vI a3)] [] M (some (vI x)) N := by
  unfold f_X11_joins at h
  refine Z_blk k_X11_joins 5 (pc' := 8) (lo' := [some (vR 0 21 0), some (vI a1), some (vI a2), some (vI a3)]) (st' := [vI (o_add 37 a1), vR 5 0 1775]) (M1 := M) rfl ?_
  obtain ⟨hc1, h⟩ := of_grd h
  refine Z_one k_X11_joins rfl (pc' := 9) (lo' := [some (vR 0 21 0), some (vI a1), some (vI a2), some (vI a3)]) (st' := [vI (M 5 (Int.toNat (o_add 37 a1)))]) (M1 := M) (if_pos hc1) ?_
  refine Z_blk k_X11_joins 1 (pc' := 10) (lo' := [some (vR 0 21 0), some (vI a1), some (vI a2), some (vI a3)]) (st' := [vI 1, vI (M 5 (Int.toNat (o_add 37 a1)))]) (M1 := M) rfl ?_
  refine Z_icmp k_X11_joins rfl 69 rfl (fun hc => ?_) (fun hc => ?_)
  · replace h := of_pos hc h
    refine Z_blk k_X11_joins 1 (pc' := 70) (lo' := [some (vR 0 21 0), some (vI a1), some (vI a2), some (vI a3)]) (st' := [vI 0]) (M1 := M) rfl ?_
    cases h
    exact Z_ret ⟨Or.inr ⟨rfl, Or.inl rfl⟩, _, rfl⟩ rfl
  · replace h := of_neg hc h
    refine Z_blk k_X11_joins 5 (pc' := 21) (lo' := [some (vR 0 21 0), some (vI a1), some (vI a2), some (vI a3)]) (st' := [vI (o_add 7 a1), vR 5 0 1775]) (M1 := M) rfl ?_
    obtain ⟨hc2, h⟩ := of_grd h
    refine Z_one k_X11_joins rfl (pc' := 22) (lo' := [some (vR 0 21 0), some (vI a1), some (vI a2), some (vI a3)]) (st' := [vI (M 5 (Int.toNat (o_add 7 a1)))]) (M1 := M) (if_pos hc2) ?_
    refine Z_blk k_X11_joins 1 (pc' := 23) (lo' := [some (vR 0 21 0), some (vI a1), some (vI a2), some (vI a3)]) (st' := [vI a2, vI (M 5 (Int.toNat (o_add 7 a1)))]) (M1 := M) rfl ?_
    refine Z_icmp k_X11_joins rfl 39 rfl (fun hc => ?_) (fun hc => ?_)
    · replace h := of_pos hc h
      refine Z_mask [true, true, true, true] (lo0 := [some (vR 0 21 0), some (vI a1), some (vI a2), some (vI a3)]) rfl ?_
      exact e_X11_joins_39 d a1 a2 a3 M _ _ h
    · replace h := of_neg hc h
      refine Z_blk k_X11_joins 5 (pc' := 34) (lo' := [some (vR 0 21 0), some (vI a1), some (vI a2), some (vI a3)]) (st' := [vI (o_add 17 a1), vR 5 0 1775]) (M1 := M) rfl ?_
      obtain ⟨hc3, h⟩ := of_grd h
      refine Z_one k_X11_joins rfl (pc' := 35) (lo' := [some (vR 0 21 0), some (vI a1), some (vI a2), some (vI a3)]) (st' := [vI (M 5 (Int.toNat (o_add 17 a1)))]) (M1 := M) (if_pos hc3) ?_
      refine Z_blk k_X11_joins 1 (pc' := 36) (lo' := [some (vR 0 21 0), some (vI a1), some (vI a2), some (vI a3)]) (st' := [vI a3, vI (M 5 (Int.toNat (o_add 17 a1)))]) (M1 := M) rfl ?_
      refine Z_icmp k_X11_joins rfl 65 rfl (fun hc => ?_) (fun hc => ?_)
      · replace h := of_pos hc h
        refine Z_blk k_X11_joins 2 (pc' := 70) (lo' := [some (vR 0 21 0), some (vI a1), some (vI a2), some (vI a3)]) (st' := [vI 1]) (M1 := M) rfl ?_
        cases h
        exact Z_ret ⟨Or.inr ⟨rfl, Or.inr rfl⟩, _, rfl⟩ rfl
      · replace h := of_neg hc h
        refine Z_mask [true, true, true, true] (lo0 := [some (vR 0 21 0), some (vI a1), some (vI a2), some (vI a3)]) rfl ?_
        exact e_X11_joins_39 d a1 a2 a3 M _ _ h
theorem l_11_385 : zhas 8083 (Jvm.Cond.methodLink "BellPullHouseModel" 385 yX11_joins) = true := by decide +kernel
def f_X11_nextOn_15 (k_2 : Int → Int → Int → AM → Option (Int × AM)) : Nat → Int → Int → Int → Int → AM → Option (Int × AM)
  | 0, _, _, _, _, _ => none
  | n + 1, a1, a2, a3, a4, M => if M 5 (Int.toNat 1) ≤ a4 then k_2 a1 a2 (o_add a3 1) M else ((f_X11_joins a4 a1 a3 M).bind fun x1 => if x1.1 = 0 then f_X11_nextOn_15 k_2 n a1 a2 a3 (o_add a4 1) x1.2 else (if 0 ≤ o_add 27 a4 ∧ o_add 27 a4 < 1775 then ((f_X11_farOf a3 a2 x1.2).bind fun x3 => (f_X11_farOf a1 a2 x3.2).bind fun x4 => if ¬ o_add (o_add 1 (x1.2 5 (Int.toNat (o_add 27 a4)))) x3.1 = x4.1 then f_X11_nextOn_15 k_2 n a1 a2 a3 (o_add a4 1) x4.2 else some (a3, x4.2)) else none))
theorem e_X11_nextOn_15 {Y : List (Nat × Nat)} (d : Nat) (k_2 : Int → Int → Int → AM → Option (Int × AM)) (hk_2 : ∀ (a1 : Int) (a2 : Int) (a3 : Int) (M : AM) (x : Int) (N : AM), k_2 a1 a2 a3 M = some (x, N) → Ev Y (d + 1) m_X11_nextOn 2 [some (vR 0 21 0), some (vI a1), some (vI a2), some (vI a3), none] [] M (some (vI x)) N) : ∀ (n : Nat) (a1 : Int) (a2 : Int) (a3 : Int) (a4 : Int) (M : AM) (x : Int) (N : AM), f_X11_nextOn_15 k_2 n a1 a2 a3 a4 M = some (x, N) → Ev Y (d + 1) m_X11_nextOn 15 [some (vR 0 21 0), some (vI a1), some (vI a2), some (vI a3), some (vI a4)] [] M (some (vI x)) N := by
  intro n
  induction n with
  | zero => intro a1 a2 a3 a4 M x N h; cases h
  | succ n ih =>
    intro a1 a2 a3 a4 M x N h
    simp only [f_X11_nextOn_15] at h
    refine Z_blk k_X11_nextOn 4 (pc' := 22) (lo' := [some (vR 0 21 0), some (vI a1), some (vI a2), some (vI a3), some (vI a4)]) (st' := [vI 1, vR 5 0 1775, vI a4]) (M1 := M) rfl ?_
    refine Z_one k_X11_nextOn rfl (pc' := 23) (lo' := [some (vR 0 21 0), some (vI a1), some (vI a2), some (vI a3), some (vI a4)]) (st' := [vI (M 5 (Int.toNat 1)), vI a4]) (M1 := M) (rfl) ?_
    refine Z_icmp k_X11_nextOn rfl 73 rfl (fun hc => ?_) (fun hc => ?_)
    · replace h := of_pos hc h
      refine Z_blk k_X11_nextOn 2 (pc' := 2) (lo' := [some (vR 0 21 0), some (vI a1), some (vI a2), some (vI (o_add a3 1)), some (vI a4)]) (st' := []) (M1 := M) rfl ?_
      refine Z_mask [true, true, true, true, false] (lo0 := [some (vR 0 21 0), some (vI a1), some (vI a2), some (vI (o_add a3 1)), none]) rfl ?_
      exact hk_2 a1 a2 (o_add a3 1) M _ _ h
    · replace h := of_neg hc h
      refine Z_blk k_X11_nextOn 4 (pc' := 31) (lo' := [some (vR 0 21 0), some (vI a1), some (vI a2), some (vI a3), some (vI a4)]) (st' := [vI a3, vI a1, vI a4, vR 0 21 0]) (M1 := M) rfl ?_
      obtain ⟨x1, hx1, h⟩ := Option.bind_eq_some_iff.mp h
      refine Z_callV8 k_X11_nextOn k_X11_joins rfl rfl (l_11_385) (ci := 11) rfl [vI a4, vI a1, vI a3] [] rfl rfl (Nat.le_of_ble_eq_true rfl) (Nat.le_of_ble_eq_true rfl) (e_X11_joins (d + 0) a4 a1 a3 M _ _ hx1) ?_
      refine Z_if k_X11_nextOn rfl 67 rfl (fun hc => ?_) (fun hc => ?_)
      · replace h := of_pos hc h
        refine Z_blk k_X11_nextOn 2 (pc' := 15) (lo' := [some (vR 0 21 0), some (vI a1), some (vI a2), some (vI a3), some (vI (o_add a4 1))]) (st' := []) (M1 := x1.2) rfl ?_
        refine Z_mask [true, true, true, true, true] (lo0 := [some (vR 0 21 0), some (vI a1), some (vI a2), some (vI a3), some (vI (o_add a4 1))]) rfl ?_
        exact ih a1 a2 a3 (o_add a4 1) x1.2 _ _ h
      · replace h := of_neg hc h
        refine Z_blk k_X11_nextOn 6 (pc' := 47) (lo' := [some (vR 0 21 0), some (vI a1), some (vI a2), some (vI a3), some (vI a4)]) (st' := [vI (o_add 27 a4), vR 5 0 1775, vI 1]) (M1 := x1.2) rfl ?_
        obtain ⟨hc2, h⟩ := of_grd h
        refine Z_one k_X11_nextOn rfl (pc' := 48) (lo' := [some (vR 0 21 0), some (vI a1), some (vI a2), some (vI a3), some (vI a4)]) (st' := [vI (x1.2 5 (Int.toNat (o_add 27 a4))), vI 1]) (M1 := x1.2) (if_pos hc2) ?_
        refine Z_blk k_X11_nextOn 4 (pc' := 52) (lo' := [some (vR 0 21 0), some (vI a1), some (vI a2), some (vI a3), some (vI a4)]) (st' := [vI a2, vI a3, vR 0 21 0, vI (o_add 1 (x1.2 5 (Int.toNat (o_add 27 a4))))]) (M1 := x1.2) rfl ?_
        obtain ⟨x3, hx3, h⟩ := Option.bind_eq_some_iff.mp h
        refine Z_callV8 k_X11_nextOn k_X11_farOf rfl rfl (l_11_312) (ci := 11) rfl [vI a3, vI a2] [vI (o_add 1 (x1.2 5 (Int.toNat (o_add 27 a4))))] rfl rfl (Nat.le_of_ble_eq_true rfl) (Nat.le_of_ble_eq_true rfl) (e_X11_farOf (d + 0) a3 a2 x1.2 _ _ hx3) ?_
        refine Z_blk k_X11_nextOn 4 (pc' := 59) (lo' := [some (vR 0 21 0), some (vI a1), some (vI a2), some (vI a3), some (vI a4)]) (st' := [vI a2, vI a1, vR 0 21 0, vI (o_add (o_add 1 (x1.2 5 (Int.toNat (o_add 27 a4)))) x3.1)]) (M1 := x3.2) rfl ?_
        obtain ⟨x4, hx4, h⟩ := Option.bind_eq_some_iff.mp h
        refine Z_callV8 k_X11_nextOn k_X11_farOf rfl rfl (l_11_312) (ci := 11) rfl [vI a1, vI a2] [vI (o_add (o_add 1 (x1.2 5 (Int.toNat (o_add 27 a4)))) x3.1)] rfl rfl (Nat.le_of_ble_eq_true rfl) (Nat.le_of_ble_eq_true rfl) (e_X11_farOf (d + 0) a1 a2 x3.2 _ _ hx4) ?_
        refine Z_icmp k_X11_nextOn rfl 67 rfl (fun hc => ?_) (fun hc => ?_)
        · replace h := of_pos hc h
          refine Z_blk k_X11_nextOn 2 (pc' := 15) (lo' := [some (vR 0 21 0), some (vI a1), some (vI a2), some (vI a3), some (vI (o_add a4 1))]) (st' := []) (M1 := x4.2) rfl ?_
          refine Z_mask [true, true, true, true, true] (lo0 := [some (vR 0 21 0), some (vI a1), some (vI a2), some (vI a3), some (vI (o_add a4 1))]) rfl ?_
          exact ih a1 a2 a3 (o_add a4 1) x4.2 _ _ h
        · replace h := of_neg hc h
          refine Z_blk k_X11_nextOn 1 (pc' := 66) (lo' := [some (vR 0 21 0), some (vI a1), some (vI a2), some (vI a3), some (vI a4)]) (st' := [vI a3]) (M1 := x4.2) rfl ?_
          cases h
          exact Z_ret ⟨Or.inl rfl, _, rfl⟩ rfl
def f_X11_nextOn_2 : Nat → Int → Int → Int → AM → Option (Int × AM)
  | 0, _, _, _, _ => none
  | n + 1, a1, a2, a3, M => if M 5 (Int.toNat 0) ≤ a3 then some ((-1), M) else f_X11_nextOn_15 (f_X11_nextOn_2 n) zB a1 a2 a3 0 M
theorem e_X11_nextOn_2 {Y : List (Nat × Nat)} (d : Nat) : ∀ (n : Nat) (a1 : Int) (a2 : Int) (a3 : Int) (M : AM) (x : Int) (N : AM), f_X11_nextOn_2 n a1 a2 a3 M = some (x, N) → Ev Y (d + 1) m_X11_nextOn 2 [some (vR 0 21 0), some (vI a1), some (vI a2), some (vI a3), none] [] M (some (vI x)) N := by
  intro n
  induction n with
  | zero => intro a1 a2 a3 M x N h; cases h
  | succ n ih =>
    intro a1 a2 a3 M x N h
    simp only [f_X11_nextOn_2] at h
    refine Z_blk k_X11_nextOn 4 (pc' := 8) (lo' := [some (vR 0 21 0), some (vI a1), some (vI a2), some (vI a3), none]) (st' := [vI 0, vR 5 0 1775, vI a3]) (M1 := M) rfl ?_
    refine Z_one k_X11_nextOn rfl (pc' := 9) (lo' := [some (vR 0 21 0), some (vI a1), some (vI a2), some (vI a3), none]) (st' := [vI (M 5 (Int.toNat 0)), vI a3]) (M1 := M) (rfl) ?_
    refine Z_icmp k_X11_nextOn rfl 79 rfl (fun hc => ?_) (fun hc => ?_)
    · replace h := of_pos hc h
      refine Z_blk k_X11_nextOn 1 (pc' := 80) (lo' := [some (vR 0 21 0), some (vI a1), some (vI a2), some (vI a3), none]) (st' := [vI (-1)]) (M1 := M) rfl ?_
      cases h
      exact Z_ret ⟨Or.inl rfl, _, rfl⟩ rfl
    · replace h := of_neg hc h
      refine Z_blk k_X11_nextOn 2 (pc' := 15) (lo' := [some (vR 0 21 0), some (vI a1), some (vI a2), some (vI a3), some (vI 0)]) (st' := []) (M1 := M) rfl ?_
      refine Z_mask [true, true, true, true, true] (lo0 := [some (vR 0 21 0), some (vI a1), some (vI a2), some (vI a3), some (vI 0)]) rfl ?_
      exact e_X11_nextOn_15 d (f_X11_nextOn_2 n) ih zB a1 a2 a3 0 M _ _ h
def f_X11_nextOn (a1 : Int) (a2 : Int) (M : AM) : Option (Int × AM) := f_X11_nextOn_2 zB a1 a2 0 M
theorem e_X11_nextOn {Y : List (Nat × Nat)} (d : Nat) (a1 : Int) (a2 : Int) (M : AM) (x : Int) (N : AM) (h : f_X11_nextOn a1 a2 M = some (x, N)) : Ev Y (d + 1) m_X11_nextOn 0 [some (vR 0 21 0), some (vI a1), some (vI a2), none, none] [] M (some (vI x)) N := by
  unfold f_X11_nextOn at h
  refine Z_blk k_X11_nextOn 2 (pc' := 2) (lo' := [some (vR 0 21 0), some (vI a1), some (vI a2), some (vI 0), none]) (st' := []) (M1 := M) rfl ?_
  refine Z_mask [true, true, true, true, false] (lo0 := [some (vR 0 21 0), some (vI a1), some (vI a2), some (vI 0), none]) rfl ?_
  exact e_X11_nextOn_2 d zB a1 a2 0 M _ _ h
theorem l_11_389 : zhas 8079 (Jvm.Cond.methodLink "BellPullHouseModel" 389 yX11_nextOn) = true := by decide +kernel
def f_X11_way_26 (M : AM) : Option (Int × AM) := (f_X11_refuse 2 M).bind fun x1 => some (x1.1, x1.2)
theorem e_X11_way_26 {Y : List (Nat × Nat)} (d : Nat) (M : AM) (x : Int) (N : AM) (h : f_X11_way_26 M = some (x, N)) : Ev Y (d + 2) m_X11_way 26 [some (vR 0 21 0), none, none, none, none, none] [] M (some (vI x)) N := by
  unfold f_X11_way_26 at h
  refine Z_blk k_X11_way 2 (pc' := 28) (lo' := [some (vR 0 21 0), none, none, none, none, none]) (st' := [vI 2, vR 0 21 0]) (M1 := M) rfl ?_
  obtain ⟨x1, hx1, h⟩ := Option.bind_eq_some_iff.mp h
  refine Z_callV8 k_X11_way k_X11_refuse rfl rfl (l_11_326) (ci := 11) rfl [vI 2] [] rfl rfl (Nat.le_of_ble_eq_true rfl) (Nat.le_of_ble_eq_true rfl) (e_X11_refuse (d + 1) 2 M _ _ hx1) ?_
  cases h
  exact Z_ret ⟨Or.inl rfl, _, rfl⟩ rfl
def f_X11_way_52 (M : AM) : Option (Int × AM) := (f_X11_refuse 8 M).bind fun x1 => some (x1.1, x1.2)
theorem e_X11_way_52 {Y : List (Nat × Nat)} (d : Nat) (M : AM) (x : Int) (N : AM) (h : f_X11_way_52 M = some (x, N)) : Ev Y (d + 2) m_X11_way 52 [some (vR 0 21 0), none, none, none, none, none] [] M (some (vI x)) N := by
  unfold f_X11_way_52 at h
  refine Z_blk k_X11_way 2 (pc' := 55) (lo' := [some (vR 0 21 0), none, none, none, none, none]) (st' := [vI 8, vR 0 21 0]) (M1 := M) rfl ?_
  obtain ⟨x1, hx1, h⟩ := Option.bind_eq_some_iff.mp h
  refine Z_callV8 k_X11_way k_X11_refuse rfl rfl (l_11_326) (ci := 11) rfl [vI 8] [] rfl rfl (Nat.le_of_ble_eq_true rfl) (Nat.le_of_ble_eq_true rfl) (e_X11_refuse (d + 1) 8 M _ _ hx1) ?_
  cases h
  exact Z_ret ⟨Or.inl rfl, _, rfl⟩ rfl
def f_X11_way_65 : Nat → Int → Int → Int → Int → AM → Option (Int × AM)
  | 0, _, _, _, _, _ => none
  | n + 1, a2, a3, a4, a5, M => if a3 ≤ a5 then some (a4, M) else (if ¬ a4 = a2 then ((f_X11_nextOn a4 a2 M).bind fun x1 => f_X11_way_65 n a2 a3 x1.1 (o_add a5 1) x1.2) else ((f_X11_refuse 8 M).bind fun x2 => some (x2.1, x2.2)))
theorem e_X11_way_65 {Y : List (Nat × Nat)} (d : Nat) : ∀ (n : Nat) (a2 : Int) (a3 : Int) (a4 : Int) (a5 : Int) (M : AM) (x : Int) (N : AM), f_X11_way_65 n a2 a3 a4 a5 M = some (x, N) → Ev Y (d + 2) m_X11_way 65 [some (vR 0 21 0), none, some (vI a2), some (vI a3), some (vI a4), some (vI a5)] [] M (some (vI x)) N := by
  intro n
  induction n with
  | zero => intro a2 a3 a4 a5 M x N h; cases h
  | succ n ih =>
    intro a2 a3 a4 a5 M x N h
    simp only [f_X11_way_65] at h
    refine Z_blk k_X11_way 2 (pc' := 68) (lo' := [some (vR 0 21 0), none, some (vI a2), some (vI a3), some (vI a4), some (vI a5)]) (st' := [vI a3, vI a5]) (M1 := M) rfl ?_
    refine Z_icmp k_X11_way rfl 99 rfl (fun hc => ?_) (fun hc => ?_)
    · replace h := of_pos hc h
      refine Z_blk k_X11_way 1 (pc' := 101) (lo' := [some (vR 0 21 0), none, some (vI a2), some (vI a3), some (vI a4), some (vI a5)]) (st' := [vI a4]) (M1 := M) rfl ?_
      cases h
      exact Z_ret ⟨Or.inl rfl, _, rfl⟩ rfl
    · replace h := of_neg hc h
      refine Z_blk k_X11_way 2 (pc' := 74) (lo' := [some (vR 0 21 0), none, some (vI a2), some (vI a3), some (vI a4), some (vI a5)]) (st' := [vI a2, vI a4]) (M1 := M) rfl ?_
      refine Z_icmp k_X11_way rfl 84 rfl (fun hc => ?_) (fun hc => ?_)
      · replace h := of_pos hc h
        refine Z_blk k_X11_way 3 (pc' := 88) (lo' := [some (vR 0 21 0), none, some (vI a2), some (vI a3), some (vI a4), some (vI a5)]) (st' := [vI a2, vI a4, vR 0 21 0]) (M1 := M) rfl ?_
        obtain ⟨x1, hx1, h⟩ := Option.bind_eq_some_iff.mp h
        refine Z_callV8 k_X11_way k_X11_nextOn rfl rfl (l_11_389) (ci := 11) rfl [vI a4, vI a2] [] rfl rfl (Nat.le_of_ble_eq_true rfl) (Nat.le_of_ble_eq_true rfl) (e_X11_nextOn (d + 0) a4 a2 M _ _ hx1) ?_
        refine Z_blk k_X11_way 3 (pc' := 65) (lo' := [some (vR 0 21 0), none, some (vI a2), some (vI a3), some (vI x1.1), some (vI (o_add a5 1))]) (st' := []) (M1 := x1.2) rfl ?_
        refine Z_mask [true, false, true, true, true, true] (lo0 := [some (vR 0 21 0), none, some (vI a2), some (vI a3), some (vI x1.1), some (vI (o_add a5 1))]) rfl ?_
        exact ih a2 a3 x1.1 (o_add a5 1) x1.2 _ _ h
      · replace h := of_neg hc h
        refine Z_blk k_X11_way 2 (pc' := 80) (lo' := [some (vR 0 21 0), none, some (vI a2), some (vI a3), some (vI a4), some (vI a5)]) (st' := [vI 8, vR 0 21 0]) (M1 := M) rfl ?_
        obtain ⟨x2, hx2, h⟩ := Option.bind_eq_some_iff.mp h
        refine Z_callV8 k_X11_way k_X11_refuse rfl rfl (l_11_326) (ci := 11) rfl [vI 8] [] rfl rfl (Nat.le_of_ble_eq_true rfl) (Nat.le_of_ble_eq_true rfl) (e_X11_refuse (d + 1) 8 M _ _ hx2) ?_
        cases h
        exact Z_ret ⟨Or.inl rfl, _, rfl⟩ rfl
def f_X11_way (a1 : Int) (a2 : Int) (a3 : Int) (M : AM) : Option (Int × AM) := zlet (am_upd M 0 1 0) fun M1 => zlet (am_upd M1 0 0 0) fun M2 => (f_X11_isRoomAt a1 M2).bind fun x3 => if x3.1 = 0 then f_X11_way_26 x3.2 else ((f_X11_isRoomAt a2 x3.2).bind fun x4 => if ¬ x4.1 = 0 then ((f_X11_laysFar x4.2).bind fun x5 => if a3 < 0 then f_X11_way_52 x5 else ((f_X11_farOf a1 a2 x5).bind fun x6 => if x6.1 < 1000 then f_X11_way_65 zB a2 a3 a1 0 x6.2 else f_X11_way_52 x6.2)) else f_X11_way_26 x4.2)
theorem e_X11_way {Y : List (Nat × Nat)} (d : Nat) (a1 : Int) (a2 : Int) (a3 : Int) (M : AM) (x : Int) (N : AM) (h : f_X11_way a1 a2 a3 M = some (x, N)) : Ev Y (d + 2) m_X11_way 0 [some (vR 0 21 0), some (vI a1), some (vI a2), some (vI a3), none, none] [] M (some (vI x)) N := by
  unfold f_X11_way at h
  obtain ⟨M1, eM1, h⟩ := of_zlet h
  refine Z_blk k_X11_way 3 (pc' := 5) (lo' := [some (vR 0 21 0), some (vI a1), some (vI a2), some (vI a3), none, none]) (st' := []) (M1 := M1) (by rw [eM1]; rfl) ?_
  obtain ⟨M2, eM2, h⟩ := of_zlet h
  refine Z_blk k_X11_way 3 (pc' := 10) (lo' := [some (vR 0 21 0), some (vI a1), some (vI a2), some (vI a3), none, none]) (st' := []) (M1 := M2) (by rw [eM2]; rfl) ?_
  refine Z_blk k_X11_way 2 (pc' := 12) (lo' := [some (vR 0 21 0), some (vI a1), some (vI a2), some (vI a3), none, none]) (st' := [vI a1, vR 0 21 0]) (M1 := M2) rfl ?_
  obtain ⟨x3, hx3, h⟩ := Option.bind_eq_some_iff.mp h
  refine Z_callV8 k_X11_way k_X11_isRoomAt rfl rfl (l_11_375) (ci := 11) rfl [vI a1] [] rfl rfl (Nat.le_of_ble_eq_true rfl) (Nat.le_of_ble_eq_true rfl) (e_X11_isRoomAt (d + 0) a1 M2 _ _ hx3) ?_
  refine Z_if k_X11_way rfl 26 rfl (fun hc => ?_) (fun hc => ?_)
  · replace h := of_pos hc h
    refine Z_mask [true, false, false, false, false, false] (lo0 := [some (vR 0 21 0), none, none, none, none, none]) rfl ?_
    exact e_X11_way_26 d x3.2 _ _ h
  · replace h := of_neg hc h
    refine Z_blk k_X11_way 2 (pc' := 20) (lo' := [some (vR 0 21 0), some (vI a1), some (vI a2), some (vI a3), none, none]) (st' := [vI a2, vR 0 21 0]) (M1 := x3.2) rfl ?_
    obtain ⟨x4, hx4, h⟩ := Option.bind_eq_some_iff.mp h
    refine Z_callV8 k_X11_way k_X11_isRoomAt rfl rfl (l_11_375) (ci := 11) rfl [vI a2] [] rfl rfl (Nat.le_of_ble_eq_true rfl) (Nat.le_of_ble_eq_true rfl) (e_X11_isRoomAt (d + 0) a2 x3.2 _ _ hx4) ?_
    refine Z_if k_X11_way rfl 32 rfl (fun hc => ?_) (fun hc => ?_)
    · replace h := of_pos hc h
      refine Z_blk k_X11_way 1 (pc' := 33) (lo' := [some (vR 0 21 0), some (vI a1), some (vI a2), some (vI a3), none, none]) (st' := [vR 0 21 0]) (M1 := x4.2) rfl ?_
      obtain ⟨x5, hx5, h⟩ := Option.bind_eq_some_iff.mp h
      refine Z_callV8 k_X11_way k_X11_laysFar rfl rfl (l_11_318) (ci := 11) rfl [] [] rfl rfl (Nat.le_of_ble_eq_true rfl) (Nat.le_of_ble_eq_true rfl) (e_X11_laysFar (d + 1) x4.2 _ hx5) ?_
      refine Z_blk k_X11_way 1 (pc' := 37) (lo' := [some (vR 0 21 0), some (vI a1), some (vI a2), some (vI a3), none, none]) (st' := [vI a3]) (M1 := x5) rfl ?_
      refine Z_if k_X11_way rfl 52 rfl (fun hc => ?_) (fun hc => ?_)
      · replace h := of_pos hc h
        refine Z_mask [true, false, false, false, false, false] (lo0 := [some (vR 0 21 0), none, none, none, none, none]) rfl ?_
        exact e_X11_way_52 d x5 _ _ h
      · replace h := of_neg hc h
        refine Z_blk k_X11_way 3 (pc' := 43) (lo' := [some (vR 0 21 0), some (vI a1), some (vI a2), some (vI a3), none, none]) (st' := [vI a2, vI a1, vR 0 21 0]) (M1 := x5) rfl ?_
        obtain ⟨x6, hx6, h⟩ := Option.bind_eq_some_iff.mp h
        refine Z_callV8 k_X11_way k_X11_farOf rfl rfl (l_11_312) (ci := 11) rfl [vI a1, vI a2] [] rfl rfl (Nat.le_of_ble_eq_true rfl) (Nat.le_of_ble_eq_true rfl) (e_X11_farOf (d + 1) a1 a2 x5 _ _ hx6) ?_
        refine Z_blk k_X11_way 1 (pc' := 49) (lo' := [some (vR 0 21 0), some (vI a1), some (vI a2), some (vI a3), none, none]) (st' := [vI 1000, vI x6.1]) (M1 := x6.2) rfl ?_
        refine Z_icmp k_X11_way rfl 59 rfl (fun hc => ?_) (fun hc => ?_)
        · replace h := of_pos hc h
          refine Z_blk k_X11_way 4 (pc' := 65) (lo' := [some (vR 0 21 0), some (vI a1), some (vI a2), some (vI a3), some (vI a1), some (vI 0)]) (st' := []) (M1 := x6.2) rfl ?_
          refine Z_mask [true, false, true, true, true, true] (lo0 := [some (vR 0 21 0), none, some (vI a2), some (vI a3), some (vI a1), some (vI 0)]) rfl ?_
          exact e_X11_way_65 d zB a2 a3 a1 0 x6.2 _ _ h
        · replace h := of_neg hc h
          refine Z_mask [true, false, false, false, false, false] (lo0 := [some (vR 0 21 0), none, none, none, none, none]) rfl ?_
          exact e_X11_way_52 d x6.2 _ _ h
    · replace h := of_neg hc h
      refine Z_mask [true, false, false, false, false, false] (lo0 := [some (vR 0 21 0), none, none, none, none, none]) rfl ?_
      exact e_X11_way_26 d x4.2 _ _ h
def f_X11_parts_33 (k_18 : Int → Int → AM → Option (Int × AM)) : Nat → Int → Int → Int → Int → AM → Option (Int × AM)
  | 0, _, _, _, _, _ => none
  | n + 1, a1, a2, a3, a4, M => if a2 ≤ a4 then (if a3 = 0 then k_18 (o_add a1 0) (o_add a2 1) M else k_18 (o_add a1 1) (o_add a2 1) M) else (if a3 = 0 then f_X11_parts_33 k_18 n a1 a2 0 (o_add a4 1) M else ((f_X11_farOf a2 a4 M).bind fun x1 => if x1.1 < 1000 then f_X11_parts_33 k_18 n a1 a2 0 (o_add a4 1) x1.2 else f_X11_parts_33 k_18 n a1 a2 1 (o_add a4 1) x1.2))
theorem e_X11_parts_33 {Y : List (Nat × Nat)} (d : Nat) (k_18 : Int → Int → AM → Option (Int × AM)) (hk_18 : ∀ (a1 : Int) (a2 : Int) (M : AM) (x : Int) (N : AM), k_18 a1 a2 M = some (x, N) → Ev Y (d + 1) m_X11_parts 18 [some (vR 0 21 0), some (vI a1), some (vI a2), none, none] [] M (some (vI x)) N) : ∀ (n : Nat) (a1 : Int) (a2 : Int) (a3 : Int) (a4 : Int) (M : AM) (x : Int) (N : AM), f_X11_parts_33 k_18 n a1 a2 a3 a4 M = some (x, N) → Ev Y (d + 1) m_X11_parts 33 [some (vR 0 21 0), some (vI a1), some (vI a2), some (vI a3), some (vI a4)] [] M (some (vI x)) N := by
  intro n
  induction n with
  | zero => intro a1 a2 a3 a4 M x N h; cases h
  | succ n ih =>
    intro a1 a2 a3 a4 M x N h
    simp only [f_X11_parts_33] at h
    refine Z_blk k_X11_parts 2 (pc' := 36) (lo' := [some (vR 0 21 0), some (vI a1), some (vI a2), some (vI a3), some (vI a4)]) (st' := [vI a2, vI a4]) (M1 := M) rfl ?_
    refine Z_icmp k_X11_parts rfl 68 rfl (fun hc => ?_) (fun hc => ?_)
    · replace h := of_pos hc h
      refine Z_blk k_X11_parts 2 (pc' := 70) (lo' := [some (vR 0 21 0), some (vI a1), some (vI a2), some (vI a3), some (vI a4)]) (st' := [vI a3, vI a1]) (M1 := M) rfl ?_
      refine Z_if k_X11_parts rfl 77 rfl (fun hc => ?_) (fun hc => ?_)
      · replace h := of_pos hc h
        refine Z_blk k_X11_parts 5 (pc' := 18) (lo' := [some (vR 0 21 0), some (vI (o_add a1 0)), some (vI (o_add a2 1)), some (vI a3), some (vI a4)]) (st' := []) (M1 := M) rfl ?_
        refine Z_mask [true, true, true, false, false] (lo0 := [some (vR 0 21 0), some (vI (o_add a1 0)), some (vI (o_add a2 1)), none, none]) rfl ?_
        exact hk_18 (o_add a1 0) (o_add a2 1) M _ _ h
      · replace h := of_neg hc h
        refine Z_blk k_X11_parts 6 (pc' := 18) (lo' := [some (vR 0 21 0), some (vI (o_add a1 1)), some (vI (o_add a2 1)), some (vI a3), some (vI a4)]) (st' := []) (M1 := M) rfl ?_
        refine Z_mask [true, true, true, false, false] (lo0 := [some (vR 0 21 0), some (vI (o_add a1 1)), some (vI (o_add a2 1)), none, none]) rfl ?_
        exact hk_18 (o_add a1 1) (o_add a2 1) M _ _ h
    · replace h := of_neg hc h
      refine Z_blk k_X11_parts 1 (pc' := 40) (lo' := [some (vR 0 21 0), some (vI a1), some (vI a2), some (vI a3), some (vI a4)]) (st' := [vI a3]) (M1 := M) rfl ?_
      refine Z_if k_X11_parts rfl 60 rfl (fun hc => ?_) (fun hc => ?_)
      · replace h := of_pos hc h
        refine Z_blk k_X11_parts 4 (pc' := 33) (lo' := [some (vR 0 21 0), some (vI a1), some (vI a2), some (vI 0), some (vI (o_add a4 1))]) (st' := []) (M1 := M) rfl ?_
        refine Z_mask [true, true, true, true, true] (lo0 := [some (vR 0 21 0), some (vI a1), some (vI a2), some (vI 0), some (vI (o_add a4 1))]) rfl ?_
        exact ih a1 a2 0 (o_add a4 1) M _ _ h
      · replace h := of_neg hc h
        refine Z_blk k_X11_parts 3 (pc' := 47) (lo' := [some (vR 0 21 0), some (vI a1), some (vI a2), some (vI a3), some (vI a4)]) (st' := [vI a4, vI a2, vR 0 21 0]) (M1 := M) rfl ?_
        obtain ⟨x1, hx1, h⟩ := Option.bind_eq_some_iff.mp h
        refine Z_callV8 k_X11_parts k_X11_farOf rfl rfl (l_11_312) (ci := 11) rfl [vI a2, vI a4] [] rfl rfl (Nat.le_of_ble_eq_true rfl) (Nat.le_of_ble_eq_true rfl) (e_X11_farOf (d + 0) a2 a4 M _ _ hx1) ?_
        refine Z_blk k_X11_parts 1 (pc' := 53) (lo' := [some (vR 0 21 0), some (vI a1), some (vI a2), some (vI a3), some (vI a4)]) (st' := [vI 1000, vI x1.1]) (M1 := x1.2) rfl ?_
        refine Z_icmp k_X11_parts rfl 60 rfl (fun hc => ?_) (fun hc => ?_)
        · replace h := of_pos hc h
          refine Z_blk k_X11_parts 4 (pc' := 33) (lo' := [some (vR 0 21 0), some (vI a1), some (vI a2), some (vI 0), some (vI (o_add a4 1))]) (st' := []) (M1 := x1.2) rfl ?_
          refine Z_mask [true, true, true, true, true] (lo0 := [some (vR 0 21 0), some (vI a1), some (vI a2), some (vI 0), some (vI (o_add a4 1))]) rfl ?_
          exact ih a1 a2 0 (o_add a4 1) x1.2 _ _ h
        · replace h := of_neg hc h
          refine Z_blk k_X11_parts 5 (pc' := 33) (lo' := [some (vR 0 21 0), some (vI a1), some (vI a2), some (vI 1), some (vI (o_add a4 1))]) (st' := []) (M1 := x1.2) rfl ?_
          refine Z_mask [true, true, true, true, true] (lo0 := [some (vR 0 21 0), some (vI a1), some (vI a2), some (vI 1), some (vI (o_add a4 1))]) rfl ?_
          exact ih a1 a2 1 (o_add a4 1) x1.2 _ _ h
def f_X11_parts_18 : Nat → Int → Int → AM → Option (Int × AM)
  | 0, _, _, _ => none
  | n + 1, a1, a2, M => if M 5 (Int.toNat 0) ≤ a2 then some (a1, M) else f_X11_parts_33 (f_X11_parts_18 n) zB a1 a2 1 0 M
theorem e_X11_parts_18 {Y : List (Nat × Nat)} (d : Nat) : ∀ (n : Nat) (a1 : Int) (a2 : Int) (M : AM) (x : Int) (N : AM), f_X11_parts_18 n a1 a2 M = some (x, N) → Ev Y (d + 1) m_X11_parts 18 [some (vR 0 21 0), some (vI a1), some (vI a2), none, none] [] M (some (vI x)) N := by
  intro n
  induction n with
  | zero => intro a1 a2 M x N h; cases h
  | succ n ih =>
    intro a1 a2 M x N h
    simp only [f_X11_parts_18] at h
    refine Z_blk k_X11_parts 4 (pc' := 24) (lo' := [some (vR 0 21 0), some (vI a1), some (vI a2), none, none]) (st' := [vI 0, vR 5 0 1775, vI a2]) (M1 := M) rfl ?_
    refine Z_one k_X11_parts rfl (pc' := 25) (lo' := [some (vR 0 21 0), some (vI a1), some (vI a2), none, none]) (st' := [vI (M 5 (Int.toNat 0)), vI a2]) (M1 := M) (rfl) ?_
    refine Z_icmp k_X11_parts rfl 86 rfl (fun hc => ?_) (fun hc => ?_)
    · replace h := of_pos hc h
      refine Z_blk k_X11_parts 1 (pc' := 87) (lo' := [some (vR 0 21 0), some (vI a1), some (vI a2), none, none]) (st' := [vI a1]) (M1 := M) rfl ?_
      cases h
      exact Z_ret ⟨Or.inl rfl, _, rfl⟩ rfl
    · replace h := of_neg hc h
      refine Z_blk k_X11_parts 4 (pc' := 33) (lo' := [some (vR 0 21 0), some (vI a1), some (vI a2), some (vI 1), some (vI 0)]) (st' := []) (M1 := M) rfl ?_
      refine Z_mask [true, true, true, true, true] (lo0 := [some (vR 0 21 0), some (vI a1), some (vI a2), some (vI 1), some (vI 0)]) rfl ?_
      exact e_X11_parts_33 d (f_X11_parts_18 n) ih zB a1 a2 1 0 M _ _ h
def f_X11_parts (M : AM) : Option (Int × AM) := zlet (am_upd M 0 1 0) fun M1 => zlet (am_upd M1 0 0 0) fun M2 => (f_X11_laysFar M2).bind fun x3 => f_X11_parts_18 zB 0 0 x3
theorem e_X11_parts {Y : List (Nat × Nat)} (d : Nat) (M : AM) (x : Int) (N : AM) (h : f_X11_parts M = some (x, N)) : Ev Y (d + 1) m_X11_parts 0 [some (vR 0 21 0), none, none, none, none] [] M (some (vI x)) N := by
  unfold f_X11_parts at h
  obtain ⟨M1, eM1, h⟩ := of_zlet h
  refine Z_blk k_X11_parts 3 (pc' := 5) (lo' := [some (vR 0 21 0), none, none, none, none]) (st' := []) (M1 := M1) (by rw [eM1]; rfl) ?_
  obtain ⟨M2, eM2, h⟩ := of_zlet h
  refine Z_blk k_X11_parts 3 (pc' := 10) (lo' := [some (vR 0 21 0), none, none, none, none]) (st' := []) (M1 := M2) (by rw [eM2]; rfl) ?_
  refine Z_blk k_X11_parts 1 (pc' := 11) (lo' := [some (vR 0 21 0), none, none, none, none]) (st' := [vR 0 21 0]) (M1 := M2) rfl ?_
  obtain ⟨x3, hx3, h⟩ := Option.bind_eq_some_iff.mp h
  refine Z_callV8 k_X11_parts k_X11_laysFar rfl rfl (l_11_318) (ci := 11) rfl [] [] rfl rfl (Nat.le_of_ble_eq_true rfl) (Nat.le_of_ble_eq_true rfl) (e_X11_laysFar (d + 0) M2 _ hx3) ?_
  refine Z_blk k_X11_parts 4 (pc' := 18) (lo' := [some (vR 0 21 0), some (vI 0), some (vI 0), none, none]) (st' := []) (M1 := x3) rfl ?_
  refine Z_mask [true, true, true, false, false] (lo0 := [some (vR 0 21 0), some (vI 0), some (vI 0), none, none]) rfl ?_
  exact e_X11_parts_18 d zB 0 0 x3 _ _ h
def f_X11_puts_2 : Nat → Int → AM → Option (AM)
  | 0, _, _ => none
  | n + 1, a1, M => if 83 ≤ a1 then some M else (if 0 ≤ a1 ∧ a1 < 1775 then (if 0 ≤ a1 ∧ a1 < 83 then (zlet (am_upd M 6 (Int.toNat a1) (M 5 (Int.toNat a1))) fun M3 => f_X11_puts_2 n (o_add a1 1) M3) else none) else none)
theorem e_X11_puts_2 {Y : List (Nat × Nat)} (d : Nat) : ∀ (n : Nat) (a1 : Int) (M : AM) (N : AM), f_X11_puts_2 n a1 M = some N → Ev Y (d + 0) m_X11_puts 2 [some (vR 0 21 0), some (vI a1)] [] M none N := by
  intro n
  induction n with
  | zero => intro a1 M N h; cases h
  | succ n ih =>
    intro a1 M N h
    simp only [f_X11_puts_2] at h
    refine Z_blk k_X11_puts 2 (pc' := 5) (lo' := [some (vR 0 21 0), some (vI a1)]) (st' := [vI 83, vI a1]) (M1 := M) rfl ?_
    refine Z_icmp k_X11_puts rfl 26 rfl (fun hc => ?_) (fun hc => ?_)
    · replace h := of_pos hc h
      cases h
      exact Z_ret ⟨rfl, _, rfl⟩ rfl
    · replace h := of_neg hc h
      refine Z_blk k_X11_puts 6 (pc' := 18) (lo' := [some (vR 0 21 0), some (vI a1)]) (st' := [vI a1, vR 5 0 1775, vI a1, vR 6 0 83]) (M1 := M) rfl ?_
      obtain ⟨hc1, h⟩ := of_grd h
      refine Z_one k_X11_puts rfl (pc' := 19) (lo' := [some (vR 0 21 0), some (vI a1)]) (st' := [vI (M 5 (Int.toNat a1)), vI a1, vR 6 0 83]) (M1 := M) (if_pos hc1) ?_
      obtain ⟨hc2, h⟩ := of_grd h
      obtain ⟨M3, eM3, h⟩ := of_zlet h
      refine Z_one k_X11_puts rfl (pc' := 20) (lo' := [some (vR 0 21 0), some (vI a1)]) (st' := []) (M1 := M3) (by rw [eM3]; exact if_pos hc2) ?_
      refine Z_blk k_X11_puts 2 (pc' := 2) (lo' := [some (vR 0 21 0), some (vI (o_add a1 1))]) (st' := []) (M1 := M3) rfl ?_
      refine Z_mask [true, true] (lo0 := [some (vR 0 21 0), some (vI (o_add a1 1))]) rfl ?_
      exact ih (o_add a1 1) M3 _ h
def f_X11_puts (M : AM) : Option (AM) := f_X11_puts_2 zB 0 M
theorem e_X11_puts {Y : List (Nat × Nat)} (d : Nat) (M : AM) (N : AM) (h : f_X11_puts M = some N) : Ev Y (d + 0) m_X11_puts 0 [some (vR 0 21 0), none] [] M none N := by
  unfold f_X11_puts at h
  refine Z_blk k_X11_puts 2 (pc' := 2) (lo' := [some (vR 0 21 0), some (vI 0)]) (st' := []) (M1 := M) rfl ?_
  refine Z_mask [true, true] (lo0 := [some (vR 0 21 0), some (vI 0)]) rfl ?_
  exact e_X11_puts_2 d zB 0 M _ h
def f_X11_gives_2 : Nat → Int → AM → Option (AM)
  | 0, _, _ => none
  | n + 1, a1, M => if 83 ≤ a1 then some M else (if 0 ≤ a1 ∧ a1 < 83 then (if 0 ≤ a1 ∧ a1 < 1775 then (zlet (am_upd M 5 (Int.toNat a1) (M 6 (Int.toNat a1))) fun M3 => f_X11_gives_2 n (o_add a1 1) M3) else none) else none)
theorem e_X11_gives_2 {Y : List (Nat × Nat)} (d : Nat) : ∀ (n : Nat) (a1 : Int) (M : AM) (N : AM), f_X11_gives_2 n a1 M = some N → Ev Y (d + 0) m_X11_gives 2 [some (vR 0 21 0), some (vI a1)] [] M none N := by
  intro n
  induction n with
  | zero => intro a1 M N h; cases h
  | succ n ih =>
    intro a1 M N h
    simp only [f_X11_gives_2] at h
    refine Z_blk k_X11_gives 2 (pc' := 5) (lo' := [some (vR 0 21 0), some (vI a1)]) (st' := [vI 83, vI a1]) (M1 := M) rfl ?_
    refine Z_icmp k_X11_gives rfl 26 rfl (fun hc => ?_) (fun hc => ?_)
    · replace h := of_pos hc h
      cases h
      exact Z_ret ⟨rfl, _, rfl⟩ rfl
    · replace h := of_neg hc h
      refine Z_blk k_X11_gives 6 (pc' := 18) (lo' := [some (vR 0 21 0), some (vI a1)]) (st' := [vI a1, vR 6 0 83, vI a1, vR 5 0 1775]) (M1 := M) rfl ?_
      obtain ⟨hc1, h⟩ := of_grd h
      refine Z_one k_X11_gives rfl (pc' := 19) (lo' := [some (vR 0 21 0), some (vI a1)]) (st' := [vI (M 6 (Int.toNat a1)), vI a1, vR 5 0 1775]) (M1 := M) (if_pos hc1) ?_
      obtain ⟨hc2, h⟩ := of_grd h
      obtain ⟨M3, eM3, h⟩ := of_zlet h
      refine Z_one k_X11_gives rfl (pc' := 20) (lo' := [some (vR 0 21 0), some (vI a1)]) (st' := []) (M1 := M3) (by rw [eM3]; exact if_pos hc2) ?_
      refine Z_blk k_X11_gives 2 (pc' := 2) (lo' := [some (vR 0 21 0), some (vI (o_add a1 1))]) (st' := []) (M1 := M3) rfl ?_
      refine Z_mask [true, true] (lo0 := [some (vR 0 21 0), some (vI (o_add a1 1))]) rfl ?_
      exact ih (o_add a1 1) M3 _ h
def f_X11_gives (M : AM) : Option (AM) := f_X11_gives_2 zB 0 M
theorem e_X11_gives {Y : List (Nat × Nat)} (d : Nat) (M : AM) (N : AM) (h : f_X11_gives M = some N) : Ev Y (d + 0) m_X11_gives 0 [some (vR 0 21 0), none] [] M none N := by
  unfold f_X11_gives at h
  refine Z_blk k_X11_gives 2 (pc' := 2) (lo' := [some (vR 0 21 0), some (vI 0)]) (st' := []) (M1 := M) rfl ?_
  refine Z_mask [true, true] (lo0 := [some (vR 0 21 0), some (vI 0)]) rfl ?_
  exact e_X11_gives_2 d zB 0 M _ h
def f_X11_isAhead (a0 : Int) (M : AM) : Option (Int × AM) := (f_X11_isIn a0 0 300 M).bind fun x1 => if x1.1 = 0 ∨ x1.1 = 1 then some (x1.1, x1.2) else none
theorem e_X11_isAhead {Y : List (Nat × Nat)} (d : Nat) (a0 : Int) (M : AM) (x : Int) (N : AM) (h : f_X11_isAhead a0 M = some (x, N)) : Ev Y (d + 1) m_X11_isAhead 0 [some (vI a0)] [] M (some (vI x)) N := by
  unfold f_X11_isAhead at h
  refine Z_blk k_X11_isAhead 4 (pc' := 6) (lo' := [some (vI a0)]) (st' := [vL 300, vL 0, vL a0]) (M1 := M) rfl ?_
  obtain ⟨x1, hx1, h⟩ := Option.bind_eq_some_iff.mp h
  refine Z_callS8 k_X11_isAhead k_X11_isIn rfl rfl (l_11_104) [vL a0, vL 0, vL 300] [] rfl rfl (Nat.le_of_ble_eq_true rfl) (Nat.le_of_ble_eq_true rfl) (e_X11_isIn (d + 0) a0 0 300 M _ _ hx1) ?_
  obtain ⟨hc2, h⟩ := of_grd h
  cases h
  exact Z_ret ⟨Or.inr ⟨rfl, hc2⟩, _, rfl⟩ rfl
theorem l_11_394 : zhas 8095 (Jvm.Cond.methodLink "BellPullHouseModel" 394 yX11_isAhead) = true := by decide +kernel
theorem l_11_397 : zhas 8099 (Jvm.Cond.methodLink "BellPullHouseModel" 397 yX11_puts) = true := by decide +kernel
theorem l_11_400 : zhas 8103 (Jvm.Cond.methodLink "BellPullHouseModel" 400 yX11_gives) = true := by decide +kernel
def f_X11_loveIn_43 : Nat → Int → Int → Int → AM → Option (Int × AM)
  | 0, _, _, _, _ => none
  | n + 1, a1, a2, a3, M => if a2 ≤ a3 then (if 0 ≤ o_add 59 a1 ∧ o_add 59 a1 < 1775 then ((f_X11_gives M).bind fun x2 => some (M 5 (Int.toNat (o_add 59 a1)), x2)) else none) else ((f_X11_goesDay M).bind fun x3 => f_X11_loveIn_43 n a1 a2 (o_add a3 1) x3.2)
theorem e_X11_loveIn_43 {Y : List (Nat × Nat)} (d : Nat) : ∀ (n : Nat) (a1 : Int) (a2 : Int) (a3 : Int) (M : AM) (x : Int) (N : AM), f_X11_loveIn_43 n a1 a2 a3 M = some (x, N) → Ev Y (d + 4) m_X11_loveIn 43 [some (vR 0 21 0), some (vI a1), some (vI a2), some (vI a3)] [] M (some (vI x)) N := by
  intro n
  induction n with
  | zero => intro a1 a2 a3 M x N h; cases h
  | succ n ih =>
    intro a1 a2 a3 M x N h
    simp only [f_X11_loveIn_43] at h
    refine Z_blk k_X11_loveIn 2 (pc' := 45) (lo' := [some (vR 0 21 0), some (vI a1), some (vI a2), some (vI a3)]) (st' := [vI a2, vI a3]) (M1 := M) rfl ?_
    refine Z_icmp k_X11_loveIn rfl 59 rfl (fun hc => ?_) (fun hc => ?_)
    · replace h := of_pos hc h
      refine Z_blk k_X11_loveIn 5 (pc' := 67) (lo' := [some (vR 0 21 0), some (vI a1), some (vI a2), some (vI a3)]) (st' := [vI (o_add 59 a1), vR 5 0 1775]) (M1 := M) rfl ?_
      obtain ⟨hc1, h⟩ := of_grd h
      refine Z_one k_X11_loveIn rfl (pc' := 68) (lo' := [some (vR 0 21 0), some (vI a1), some (vI a2), some (vI a3)]) (st' := [vI (M 5 (Int.toNat (o_add 59 a1)))]) (M1 := M) (if_pos hc1) ?_
      refine Z_blk k_X11_loveIn 2 (pc' := 70) (lo' := [some (vR 0 21 0), some (vI a1), some (vI a2), some (vI (M 5 (Int.toNat (o_add 59 a1))))]) (st' := [vR 0 21 0]) (M1 := M) rfl ?_
      obtain ⟨x2, hx2, h⟩ := Option.bind_eq_some_iff.mp h
      refine Z_callV8 k_X11_loveIn k_X11_gives rfl rfl (l_11_400) (ci := 11) rfl [] [] rfl rfl (Nat.le_of_ble_eq_true rfl) (Nat.le_of_ble_eq_true rfl) (e_X11_gives (d + 3) M _ hx2) ?_
      refine Z_blk k_X11_loveIn 1 (pc' := 74) (lo' := [some (vR 0 21 0), some (vI a1), some (vI a2), some (vI (M 5 (Int.toNat (o_add 59 a1))))]) (st' := [vI (M 5 (Int.toNat (o_add 59 a1)))]) (M1 := x2) rfl ?_
      cases h
      exact Z_ret ⟨Or.inl rfl, _, rfl⟩ rfl
    · replace h := of_neg hc h
      refine Z_blk k_X11_loveIn 1 (pc' := 49) (lo' := [some (vR 0 21 0), some (vI a1), some (vI a2), some (vI a3)]) (st' := [vR 0 21 0]) (M1 := M) rfl ?_
      obtain ⟨x3, hx3, h⟩ := Option.bind_eq_some_iff.mp h
      refine Z_callV8 k_X11_loveIn k_X11_goesDay rfl rfl (l_11_361) (ci := 11) rfl [] [] rfl rfl (Nat.le_of_ble_eq_true rfl) (Nat.le_of_ble_eq_true rfl) (e_X11_goesDay (d + 0) M _ _ hx3) ?_
      refine Z_blk k_X11_loveIn 3 (pc' := 43) (lo' := [some (vR 0 21 0), some (vI a1), some (vI a2), some (vI (o_add a3 1))]) (st' := []) (M1 := x3.2) rfl ?_
      refine Z_mask [true, true, true, true] (lo0 := [some (vR 0 21 0), some (vI a1), some (vI a2), some (vI (o_add a3 1))]) rfl ?_
      exact ih a1 a2 (o_add a3 1) x3.2 _ _ h
def f_X11_loveIn (a1 : Int) (a2 : Int) (M : AM) : Option (Int × AM) := zlet (am_upd M 0 1 0) fun M1 => zlet (am_upd M1 0 0 0) fun M2 => (f_X11_isCoupleAt a1 M2).bind fun x3 => if ¬ x3.1 = 0 then ((f_X11_isAhead a2 x3.2).bind fun x4 => if ¬ x4.1 = 0 then ((f_X11_puts x4.2).bind fun x5 => f_X11_loveIn_43 zB a1 a2 0 x5) else ((f_X11_refuse 5 x4.2).bind fun x6 => some (x6.1, x6.2))) else ((f_X11_refuse 2 x3.2).bind fun x7 => some (x7.1, x7.2))
theorem e_X11_loveIn {Y : List (Nat × Nat)} (d : Nat) (a1 : Int) (a2 : Int) (M : AM) (x : Int) (N : AM) (h : f_X11_loveIn a1 a2 M = some (x, N)) : Ev Y (d + 4) m_X11_loveIn 0 [some (vR 0 21 0), some (vI a1), some (vI a2), none] [] M (some (vI x)) N := by
  unfold f_X11_loveIn at h
  obtain ⟨M1, eM1, h⟩ := of_zlet h
  refine Z_blk k_X11_loveIn 3 (pc' := 5) (lo' := [some (vR 0 21 0), some (vI a1), some (vI a2), none]) (st' := []) (M1 := M1) (by rw [eM1]; rfl) ?_
  obtain ⟨M2, eM2, h⟩ := of_zlet h
  refine Z_blk k_X11_loveIn 3 (pc' := 10) (lo' := [some (vR 0 21 0), some (vI a1), some (vI a2), none]) (st' := []) (M1 := M2) (by rw [eM2]; rfl) ?_
  refine Z_blk k_X11_loveIn 2 (pc' := 12) (lo' := [some (vR 0 21 0), some (vI a1), some (vI a2), none]) (st' := [vI a1, vR 0 21 0]) (M1 := M2) rfl ?_
  obtain ⟨x3, hx3, h⟩ := Option.bind_eq_some_iff.mp h
  refine Z_callV8 k_X11_loveIn k_X11_isCoupleAt rfl rfl (l_11_341) (ci := 11) rfl [vI a1] [] rfl rfl (Nat.le_of_ble_eq_true rfl) (Nat.le_of_ble_eq_true rfl) (e_X11_isCoupleAt (d + 2) a1 M2 _ _ hx3) ?_
  refine Z_if k_X11_loveIn rfl 24 rfl (fun hc => ?_) (fun hc => ?_)
  · replace h := of_pos hc h
    refine Z_blk k_X11_loveIn 1 (pc' := 25) (lo' := [some (vR 0 21 0), some (vI a1), some (vI a2), none]) (st' := [vI a2]) (M1 := x3.2) rfl ?_
    obtain ⟨x4, hx4, h⟩ := Option.bind_eq_some_iff.mp h
    refine Z_callS8 k_X11_loveIn k_X11_isAhead rfl rfl (l_11_394) [vI a2] [] rfl rfl (Nat.le_of_ble_eq_true rfl) (Nat.le_of_ble_eq_true rfl) (e_X11_isAhead (d + 2) a2 x3.2 _ _ hx4) ?_
    refine Z_if k_X11_loveIn rfl 37 rfl (fun hc => ?_) (fun hc => ?_)
    · replace h := of_pos hc h
      refine Z_blk k_X11_loveIn 1 (pc' := 38) (lo' := [some (vR 0 21 0), some (vI a1), some (vI a2), none]) (st' := [vR 0 21 0]) (M1 := x4.2) rfl ?_
      obtain ⟨x5, hx5, h⟩ := Option.bind_eq_some_iff.mp h
      refine Z_callV8 k_X11_loveIn k_X11_puts rfl rfl (l_11_397) (ci := 11) rfl [] [] rfl rfl (Nat.le_of_ble_eq_true rfl) (Nat.le_of_ble_eq_true rfl) (e_X11_puts (d + 3) x4.2 _ hx5) ?_
      refine Z_blk k_X11_loveIn 2 (pc' := 43) (lo' := [some (vR 0 21 0), some (vI a1), some (vI a2), some (vI 0)]) (st' := []) (M1 := x5) rfl ?_
      refine Z_mask [true, true, true, true] (lo0 := [some (vR 0 21 0), some (vI a1), some (vI a2), some (vI 0)]) rfl ?_
      exact e_X11_loveIn_43 d zB a1 a2 0 x5 _ _ h
    · replace h := of_neg hc h
      refine Z_blk k_X11_loveIn 2 (pc' := 33) (lo' := [some (vR 0 21 0), some (vI a1), some (vI a2), none]) (st' := [vI 5, vR 0 21 0]) (M1 := x4.2) rfl ?_
      obtain ⟨x6, hx6, h⟩ := Option.bind_eq_some_iff.mp h
      refine Z_callV8 k_X11_loveIn k_X11_refuse rfl rfl (l_11_326) (ci := 11) rfl [vI 5] [] rfl rfl (Nat.le_of_ble_eq_true rfl) (Nat.le_of_ble_eq_true rfl) (e_X11_refuse (d + 3) 5 x4.2 _ _ hx6) ?_
      cases h
      exact Z_ret ⟨Or.inl rfl, _, rfl⟩ rfl
  · replace h := of_neg hc h
    refine Z_blk k_X11_loveIn 2 (pc' := 20) (lo' := [some (vR 0 21 0), some (vI a1), some (vI a2), none]) (st' := [vI 2, vR 0 21 0]) (M1 := x3.2) rfl ?_
    obtain ⟨x7, hx7, h⟩ := Option.bind_eq_some_iff.mp h
    refine Z_callV8 k_X11_loveIn k_X11_refuse rfl rfl (l_11_326) (ci := 11) rfl [vI 2] [] rfl rfl (Nat.le_of_ble_eq_true rfl) (Nat.le_of_ble_eq_true rfl) (e_X11_refuse (d + 3) 2 x3.2 _ _ hx7) ?_
    cases h
    exact Z_ret ⟨Or.inl rfl, _, rfl⟩ rfl
def f_X11_partsIn_57 (k_32 : Int → Int → Int → AM → Option (Int × AM)) (a1 : Int) (a2 : Int) (a3 : Int) (M : AM) : Option (Int × AM) := (f_X11_goesDay M).bind fun x1 => k_32 a1 a2 (o_add a3 1) x1.2
theorem e_X11_partsIn_57 {Y : List (Nat × Nat)} (d : Nat) (k_32 : Int → Int → Int → AM → Option (Int × AM)) (hk_32 : ∀ (a1 : Int) (a2 : Int) (a3 : Int) (M : AM) (x : Int) (N : AM), k_32 a1 a2 a3 M = some (x, N) → Ev Y (d + 4) m_X11_partsIn 32 [some (vR 0 21 0), some (vI a1), some (vI a2), some (vI a3)] [] M (some (vI x)) N) (a1 : Int) (a2 : Int) (a3 : Int) (M : AM) (x : Int) (N : AM) (h : f_X11_partsIn_57 k_32 a1 a2 a3 M = some (x, N)) : Ev Y (d + 4) m_X11_partsIn 57 [some (vR 0 21 0), some (vI a1), some (vI a2), some (vI a3)] [] M (some (vI x)) N := by
  unfold f_X11_partsIn_57 at h
  refine Z_blk k_X11_partsIn 1 (pc' := 58) (lo' := [some (vR 0 21 0), some (vI a1), some (vI a2), some (vI a3)]) (st' := [vR 0 21 0]) (M1 := M) rfl ?_
  obtain ⟨x1, hx1, h⟩ := Option.bind_eq_some_iff.mp h
  refine Z_callV8 k_X11_partsIn k_X11_goesDay rfl rfl (l_11_361) (ci := 11) rfl [] [] rfl rfl (Nat.le_of_ble_eq_true rfl) (Nat.le_of_ble_eq_true rfl) (e_X11_goesDay (d + 0) M _ _ hx1) ?_
  refine Z_blk k_X11_partsIn 3 (pc' := 32) (lo' := [some (vR 0 21 0), some (vI a1), some (vI a2), some (vI (o_add a3 1))]) (st' := []) (M1 := x1.2) rfl ?_
  refine Z_mask [true, true, true, true] (lo0 := [some (vR 0 21 0), some (vI a1), some (vI a2), some (vI (o_add a3 1))]) rfl ?_
  exact hk_32 a1 a2 (o_add a3 1) x1.2 _ _ h
def f_X11_partsIn_68 (a2 : Int) (M : AM) : Option (Int × AM) := (f_X11_gives M).bind fun x1 => if 0 ≤ a2 then some (a2, x1) else ((f_X11_refuse 8 x1).bind fun x2 => some (x2.1, x2.2))
theorem e_X11_partsIn_68 {Y : List (Nat × Nat)} (d : Nat) (a2 : Int) (M : AM) (x : Int) (N : AM) (h : f_X11_partsIn_68 a2 M = some (x, N)) : Ev Y (d + 4) m_X11_partsIn 68 [some (vR 0 21 0), none, some (vI a2), none] [] M (some (vI x)) N := by
  unfold f_X11_partsIn_68 at h
  refine Z_blk k_X11_partsIn 1 (pc' := 69) (lo' := [some (vR 0 21 0), none, some (vI a2), none]) (st' := [vR 0 21 0]) (M1 := M) rfl ?_
  obtain ⟨x1, hx1, h⟩ := Option.bind_eq_some_iff.mp h
  refine Z_callV8 k_X11_partsIn k_X11_gives rfl rfl (l_11_400) (ci := 11) rfl [] [] rfl rfl (Nat.le_of_ble_eq_true rfl) (Nat.le_of_ble_eq_true rfl) (e_X11_gives (d + 3) M _ hx1) ?_
  refine Z_blk k_X11_partsIn 1 (pc' := 73) (lo' := [some (vR 0 21 0), none, some (vI a2), none]) (st' := [vI a2]) (M1 := x1) rfl ?_
  refine Z_if k_X11_partsIn rfl 85 rfl (fun hc => ?_) (fun hc => ?_)
  · replace h := of_pos hc h
    refine Z_blk k_X11_partsIn 1 (pc' := 86) (lo' := [some (vR 0 21 0), none, some (vI a2), none]) (st' := [vI a2]) (M1 := x1) rfl ?_
    cases h
    exact Z_ret ⟨Or.inl rfl, _, rfl⟩ rfl
  · replace h := of_neg hc h
    refine Z_blk k_X11_partsIn 2 (pc' := 79) (lo' := [some (vR 0 21 0), none, some (vI a2), none]) (st' := [vI 8, vR 0 21 0]) (M1 := x1) rfl ?_
    obtain ⟨x2, hx2, h⟩ := Option.bind_eq_some_iff.mp h
    refine Z_callV8 k_X11_partsIn k_X11_refuse rfl rfl (l_11_326) (ci := 11) rfl [vI 8] [] rfl rfl (Nat.le_of_ble_eq_true rfl) (Nat.le_of_ble_eq_true rfl) (e_X11_refuse (d + 3) 8 x1 _ _ hx2) ?_
    refine Z_blk k_X11_partsIn 1 (pc' := 86) (lo' := [some (vR 0 21 0), none, some (vI a2), none]) (st' := [vI x2.1]) (M1 := x2.2) rfl ?_
    cases h
    exact Z_ret ⟨Or.inl rfl, _, rfl⟩ rfl
def f_X11_partsIn_32 : Nat → Int → Int → Int → AM → Option (Int × AM)
  | 0, _, _, _, _ => none
  | n + 1, a1, a2, a3, M => if 300 < a3 then f_X11_partsIn_68 a2 M else (if 0 ≤ a2 then f_X11_partsIn_68 a2 M else (if 0 ≤ o_add 65 a1 ∧ o_add 65 a1 < 1775 then (if ¬ M 5 (Int.toNat (o_add 65 a1)) = 0 then f_X11_partsIn_57 (f_X11_partsIn_32 n) a1 a2 a3 M else f_X11_partsIn_57 (f_X11_partsIn_32 n) a1 a3 a3 M) else none))
theorem e_X11_partsIn_32 {Y : List (Nat × Nat)} (d : Nat) : ∀ (n : Nat) (a1 : Int) (a2 : Int) (a3 : Int) (M : AM) (x : Int) (N : AM), f_X11_partsIn_32 n a1 a2 a3 M = some (x, N) → Ev Y (d + 4) m_X11_partsIn 32 [some (vR 0 21 0), some (vI a1), some (vI a2), some (vI a3)] [] M (some (vI x)) N := by
  intro n
  induction n with
  | zero => intro a1 a2 a3 M x N h; cases h
  | succ n ih =>
    intro a1 a2 a3 M x N h
    simp only [f_X11_partsIn_32] at h
    refine Z_blk k_X11_partsIn 2 (pc' := 36) (lo' := [some (vR 0 21 0), some (vI a1), some (vI a2), some (vI a3)]) (st' := [vI 300, vI a3]) (M1 := M) rfl ?_
    refine Z_icmp k_X11_partsIn rfl 68 rfl (fun hc => ?_) (fun hc => ?_)
    · replace h := of_pos hc h
      refine Z_mask [true, false, true, false] (lo0 := [some (vR 0 21 0), none, some (vI a2), none]) rfl ?_
      exact e_X11_partsIn_68 d a2 M _ _ h
    · replace h := of_neg hc h
      refine Z_blk k_X11_partsIn 1 (pc' := 40) (lo' := [some (vR 0 21 0), some (vI a1), some (vI a2), some (vI a3)]) (st' := [vI a2]) (M1 := M) rfl ?_
      refine Z_if k_X11_partsIn rfl 68 rfl (fun hc => ?_) (fun hc => ?_)
      · replace h := of_pos hc h
        refine Z_mask [true, false, true, false] (lo0 := [some (vR 0 21 0), none, some (vI a2), none]) rfl ?_
        exact e_X11_partsIn_68 d a2 M _ _ h
      · replace h := of_neg hc h
        refine Z_blk k_X11_partsIn 5 (pc' := 51) (lo' := [some (vR 0 21 0), some (vI a1), some (vI a2), some (vI a3)]) (st' := [vI (o_add 65 a1), vR 5 0 1775]) (M1 := M) rfl ?_
        obtain ⟨hc1, h⟩ := of_grd h
        refine Z_one k_X11_partsIn rfl (pc' := 52) (lo' := [some (vR 0 21 0), some (vI a1), some (vI a2), some (vI a3)]) (st' := [vI (M 5 (Int.toNat (o_add 65 a1)))]) (M1 := M) (if_pos hc1) ?_
        refine Z_if k_X11_partsIn rfl 57 rfl (fun hc => ?_) (fun hc => ?_)
        · replace h := of_pos hc h
          refine Z_mask [true, true, true, true] (lo0 := [some (vR 0 21 0), some (vI a1), some (vI a2), some (vI a3)]) rfl ?_
          exact e_X11_partsIn_57 d (f_X11_partsIn_32 n) ih a1 a2 a3 M _ _ h
        · replace h := of_neg hc h
          refine Z_blk k_X11_partsIn 2 (pc' := 57) (lo' := [some (vR 0 21 0), some (vI a1), some (vI a3), some (vI a3)]) (st' := []) (M1 := M) rfl ?_
          refine Z_mask [true, true, true, true] (lo0 := [some (vR 0 21 0), some (vI a1), some (vI a3), some (vI a3)]) rfl ?_
          exact e_X11_partsIn_57 d (f_X11_partsIn_32 n) ih a1 a3 a3 M _ _ h
def f_X11_partsIn (a1 : Int) (M : AM) : Option (Int × AM) := zlet (am_upd M 0 1 0) fun M1 => zlet (am_upd M1 0 0 0) fun M2 => (f_X11_isCoupleAt a1 M2).bind fun x3 => if ¬ x3.1 = 0 then ((f_X11_puts x3.2).bind fun x4 => f_X11_partsIn_32 zB a1 (-1) 0 x4) else ((f_X11_refuse 2 x3.2).bind fun x5 => some (x5.1, x5.2))
theorem e_X11_partsIn {Y : List (Nat × Nat)} (d : Nat) (a1 : Int) (M : AM) (x : Int) (N : AM) (h : f_X11_partsIn a1 M = some (x, N)) : Ev Y (d + 4) m_X11_partsIn 0 [some (vR 0 21 0), some (vI a1), none, none] [] M (some (vI x)) N := by
  unfold f_X11_partsIn at h
  obtain ⟨M1, eM1, h⟩ := of_zlet h
  refine Z_blk k_X11_partsIn 3 (pc' := 5) (lo' := [some (vR 0 21 0), some (vI a1), none, none]) (st' := []) (M1 := M1) (by rw [eM1]; rfl) ?_
  obtain ⟨M2, eM2, h⟩ := of_zlet h
  refine Z_blk k_X11_partsIn 3 (pc' := 10) (lo' := [some (vR 0 21 0), some (vI a1), none, none]) (st' := []) (M1 := M2) (by rw [eM2]; rfl) ?_
  refine Z_blk k_X11_partsIn 2 (pc' := 12) (lo' := [some (vR 0 21 0), some (vI a1), none, none]) (st' := [vI a1, vR 0 21 0]) (M1 := M2) rfl ?_
  obtain ⟨x3, hx3, h⟩ := Option.bind_eq_some_iff.mp h
  refine Z_callV8 k_X11_partsIn k_X11_isCoupleAt rfl rfl (l_11_341) (ci := 11) rfl [vI a1] [] rfl rfl (Nat.le_of_ble_eq_true rfl) (Nat.le_of_ble_eq_true rfl) (e_X11_isCoupleAt (d + 2) a1 M2 _ _ hx3) ?_
  refine Z_if k_X11_partsIn rfl 24 rfl (fun hc => ?_) (fun hc => ?_)
  · replace h := of_pos hc h
    refine Z_blk k_X11_partsIn 3 (pc' := 27) (lo' := [some (vR 0 21 0), some (vI a1), some (vI (-1)), none]) (st' := [vR 0 21 0]) (M1 := x3.2) rfl ?_
    obtain ⟨x4, hx4, h⟩ := Option.bind_eq_some_iff.mp h
    refine Z_callV8 k_X11_partsIn k_X11_puts rfl rfl (l_11_397) (ci := 11) rfl [] [] rfl rfl (Nat.le_of_ble_eq_true rfl) (Nat.le_of_ble_eq_true rfl) (e_X11_puts (d + 3) x3.2 _ hx4) ?_
    refine Z_blk k_X11_partsIn 2 (pc' := 32) (lo' := [some (vR 0 21 0), some (vI a1), some (vI (-1)), some (vI 0)]) (st' := []) (M1 := x4) rfl ?_
    refine Z_mask [true, true, true, true] (lo0 := [some (vR 0 21 0), some (vI a1), some (vI (-1)), some (vI 0)]) rfl ?_
    exact e_X11_partsIn_32 d zB a1 (-1) 0 x4 _ _ h
  · replace h := of_neg hc h
    refine Z_blk k_X11_partsIn 2 (pc' := 20) (lo' := [some (vR 0 21 0), some (vI a1), none, none]) (st' := [vI 2, vR 0 21 0]) (M1 := x3.2) rfl ?_
    obtain ⟨x5, hx5, h⟩ := Option.bind_eq_some_iff.mp h
    refine Z_callV8 k_X11_partsIn k_X11_refuse rfl rfl (l_11_326) (ci := 11) rfl [vI 2] [] rfl rfl (Nat.le_of_ble_eq_true rfl) (Nat.le_of_ble_eq_true rfl) (e_X11_refuse (d + 3) 2 x3.2 _ _ hx5) ?_
    cases h
    exact Z_ret ⟨Or.inl rfl, _, rfl⟩ rfl
def f_X11_silentIn_56 (k_32 : Int → Int → Int → AM → Option (Int × AM)) (a1 : Int) (a2 : Int) (a3 : Int) (M : AM) : Option (Int × AM) := (f_X11_goesDay M).bind fun x1 => k_32 a1 a2 (o_add a3 1) x1.2
theorem e_X11_silentIn_56 {Y : List (Nat × Nat)} (d : Nat) (k_32 : Int → Int → Int → AM → Option (Int × AM)) (hk_32 : ∀ (a1 : Int) (a2 : Int) (a3 : Int) (M : AM) (x : Int) (N : AM), k_32 a1 a2 a3 M = some (x, N) → Ev Y (d + 4) m_X11_silentIn 32 [some (vR 0 21 0), some (vI a1), some (vI a2), some (vI a3)] [] M (some (vI x)) N) (a1 : Int) (a2 : Int) (a3 : Int) (M : AM) (x : Int) (N : AM) (h : f_X11_silentIn_56 k_32 a1 a2 a3 M = some (x, N)) : Ev Y (d + 4) m_X11_silentIn 56 [some (vR 0 21 0), some (vI a1), some (vI a2), some (vI a3)] [] M (some (vI x)) N := by
  unfold f_X11_silentIn_56 at h
  refine Z_blk k_X11_silentIn 1 (pc' := 57) (lo' := [some (vR 0 21 0), some (vI a1), some (vI a2), some (vI a3)]) (st' := [vR 0 21 0]) (M1 := M) rfl ?_
  obtain ⟨x1, hx1, h⟩ := Option.bind_eq_some_iff.mp h
  refine Z_callV8 k_X11_silentIn k_X11_goesDay rfl rfl (l_11_361) (ci := 11) rfl [] [] rfl rfl (Nat.le_of_ble_eq_true rfl) (Nat.le_of_ble_eq_true rfl) (e_X11_goesDay (d + 0) M _ _ hx1) ?_
  refine Z_blk k_X11_silentIn 3 (pc' := 32) (lo' := [some (vR 0 21 0), some (vI a1), some (vI a2), some (vI (o_add a3 1))]) (st' := []) (M1 := x1.2) rfl ?_
  refine Z_mask [true, true, true, true] (lo0 := [some (vR 0 21 0), some (vI a1), some (vI a2), some (vI (o_add a3 1))]) rfl ?_
  exact hk_32 a1 a2 (o_add a3 1) x1.2 _ _ h
def f_X11_silentIn_67 (a2 : Int) (M : AM) : Option (Int × AM) := (f_X11_gives M).bind fun x1 => if 0 ≤ a2 then some (a2, x1) else ((f_X11_refuse 8 x1).bind fun x2 => some (x2.1, x2.2))
theorem e_X11_silentIn_67 {Y : List (Nat × Nat)} (d : Nat) (a2 : Int) (M : AM) (x : Int) (N : AM) (h : f_X11_silentIn_67 a2 M = some (x, N)) : Ev Y (d + 4) m_X11_silentIn 67 [some (vR 0 21 0), none, some (vI a2), none] [] M (some (vI x)) N := by
  unfold f_X11_silentIn_67 at h
  refine Z_blk k_X11_silentIn 1 (pc' := 68) (lo' := [some (vR 0 21 0), none, some (vI a2), none]) (st' := [vR 0 21 0]) (M1 := M) rfl ?_
  obtain ⟨x1, hx1, h⟩ := Option.bind_eq_some_iff.mp h
  refine Z_callV8 k_X11_silentIn k_X11_gives rfl rfl (l_11_400) (ci := 11) rfl [] [] rfl rfl (Nat.le_of_ble_eq_true rfl) (Nat.le_of_ble_eq_true rfl) (e_X11_gives (d + 3) M _ hx1) ?_
  refine Z_blk k_X11_silentIn 1 (pc' := 72) (lo' := [some (vR 0 21 0), none, some (vI a2), none]) (st' := [vI a2]) (M1 := x1) rfl ?_
  refine Z_if k_X11_silentIn rfl 84 rfl (fun hc => ?_) (fun hc => ?_)
  · replace h := of_pos hc h
    refine Z_blk k_X11_silentIn 1 (pc' := 85) (lo' := [some (vR 0 21 0), none, some (vI a2), none]) (st' := [vI a2]) (M1 := x1) rfl ?_
    cases h
    exact Z_ret ⟨Or.inl rfl, _, rfl⟩ rfl
  · replace h := of_neg hc h
    refine Z_blk k_X11_silentIn 2 (pc' := 78) (lo' := [some (vR 0 21 0), none, some (vI a2), none]) (st' := [vI 8, vR 0 21 0]) (M1 := x1) rfl ?_
    obtain ⟨x2, hx2, h⟩ := Option.bind_eq_some_iff.mp h
    refine Z_callV8 k_X11_silentIn k_X11_refuse rfl rfl (l_11_326) (ci := 11) rfl [vI 8] [] rfl rfl (Nat.le_of_ble_eq_true rfl) (Nat.le_of_ble_eq_true rfl) (e_X11_refuse (d + 3) 8 x1 _ _ hx2) ?_
    refine Z_blk k_X11_silentIn 1 (pc' := 85) (lo' := [some (vR 0 21 0), none, some (vI a2), none]) (st' := [vI x2.1]) (M1 := x2.2) rfl ?_
    cases h
    exact Z_ret ⟨Or.inl rfl, _, rfl⟩ rfl
def f_X11_silentIn_32 : Nat → Int → Int → Int → AM → Option (Int × AM)
  | 0, _, _, _, _ => none
  | n + 1, a1, a2, a3, M => if 300 < a3 then f_X11_silentIn_67 a2 M else (if 0 ≤ a2 then f_X11_silentIn_67 a2 M else ((f_X11_rung M).bind fun x1 => (f_X11_has x1.1 a1 x1.2).bind fun x2 => if ¬ x2.1 = 0 then f_X11_silentIn_56 (f_X11_silentIn_32 n) a1 a2 a3 x2.2 else f_X11_silentIn_56 (f_X11_silentIn_32 n) a1 a3 a3 x2.2))
theorem e_X11_silentIn_32 {Y : List (Nat × Nat)} (d : Nat) : ∀ (n : Nat) (a1 : Int) (a2 : Int) (a3 : Int) (M : AM) (x : Int) (N : AM), f_X11_silentIn_32 n a1 a2 a3 M = some (x, N) → Ev Y (d + 4) m_X11_silentIn 32 [some (vR 0 21 0), some (vI a1), some (vI a2), some (vI a3)] [] M (some (vI x)) N := by
  intro n
  induction n with
  | zero => intro a1 a2 a3 M x N h; cases h
  | succ n ih =>
    intro a1 a2 a3 M x N h
    simp only [f_X11_silentIn_32] at h
    refine Z_blk k_X11_silentIn 2 (pc' := 36) (lo' := [some (vR 0 21 0), some (vI a1), some (vI a2), some (vI a3)]) (st' := [vI 300, vI a3]) (M1 := M) rfl ?_
    refine Z_icmp k_X11_silentIn rfl 67 rfl (fun hc => ?_) (fun hc => ?_)
    · replace h := of_pos hc h
      refine Z_mask [true, false, true, false] (lo0 := [some (vR 0 21 0), none, some (vI a2), none]) rfl ?_
      exact e_X11_silentIn_67 d a2 M _ _ h
    · replace h := of_neg hc h
      refine Z_blk k_X11_silentIn 1 (pc' := 40) (lo' := [some (vR 0 21 0), some (vI a1), some (vI a2), some (vI a3)]) (st' := [vI a2]) (M1 := M) rfl ?_
      refine Z_if k_X11_silentIn rfl 67 rfl (fun hc => ?_) (fun hc => ?_)
      · replace h := of_pos hc h
        refine Z_mask [true, false, true, false] (lo0 := [some (vR 0 21 0), none, some (vI a2), none]) rfl ?_
        exact e_X11_silentIn_67 d a2 M _ _ h
      · replace h := of_neg hc h
        refine Z_blk k_X11_silentIn 1 (pc' := 44) (lo' := [some (vR 0 21 0), some (vI a1), some (vI a2), some (vI a3)]) (st' := [vR 0 21 0]) (M1 := M) rfl ?_
        obtain ⟨x1, hx1, h⟩ := Option.bind_eq_some_iff.mp h
        refine Z_callV8 k_X11_silentIn k_X11_rung rfl rfl (l_11_332) (ci := 11) rfl [] [] rfl rfl (Nat.le_of_ble_eq_true rfl) (Nat.le_of_ble_eq_true rfl) (e_X11_rung (d + 0) M _ _ hx1) ?_
        refine Z_blk k_X11_silentIn 1 (pc' := 48) (lo' := [some (vR 0 21 0), some (vI a1), some (vI a2), some (vI a3)]) (st' := [vI a1, vI x1.1]) (M1 := x1.2) rfl ?_
        obtain ⟨x2, hx2, h⟩ := Option.bind_eq_some_iff.mp h
        refine Z_callS8 k_X11_silentIn k_X11_has rfl rfl (l_11_108) [vI x1.1, vI a1] [] rfl rfl (Nat.le_of_ble_eq_true rfl) (Nat.le_of_ble_eq_true rfl) (e_X11_has (d + 3) x1.1 a1 x1.2 _ _ hx2) ?_
        refine Z_if k_X11_silentIn rfl 56 rfl (fun hc => ?_) (fun hc => ?_)
        · replace h := of_pos hc h
          refine Z_mask [true, true, true, true] (lo0 := [some (vR 0 21 0), some (vI a1), some (vI a2), some (vI a3)]) rfl ?_
          exact e_X11_silentIn_56 d (f_X11_silentIn_32 n) ih a1 a2 a3 x2.2 _ _ h
        · replace h := of_neg hc h
          refine Z_blk k_X11_silentIn 2 (pc' := 56) (lo' := [some (vR 0 21 0), some (vI a1), some (vI a3), some (vI a3)]) (st' := []) (M1 := x2.2) rfl ?_
          refine Z_mask [true, true, true, true] (lo0 := [some (vR 0 21 0), some (vI a1), some (vI a3), some (vI a3)]) rfl ?_
          exact e_X11_silentIn_56 d (f_X11_silentIn_32 n) ih a1 a3 a3 x2.2 _ _ h
def f_X11_silentIn (a1 : Int) (M : AM) : Option (Int × AM) := zlet (am_upd M 0 1 0) fun M1 => zlet (am_upd M1 0 0 0) fun M2 => (f_X11_isCoupleAt a1 M2).bind fun x3 => if ¬ x3.1 = 0 then ((f_X11_puts x3.2).bind fun x4 => f_X11_silentIn_32 zB a1 (-1) 0 x4) else ((f_X11_refuse 2 x3.2).bind fun x5 => some (x5.1, x5.2))
theorem e_X11_silentIn {Y : List (Nat × Nat)} (d : Nat) (a1 : Int) (M : AM) (x : Int) (N : AM) (h : f_X11_silentIn a1 M = some (x, N)) : Ev Y (d + 4) m_X11_silentIn 0 [some (vR 0 21 0), some (vI a1), none, none] [] M (some (vI x)) N := by
  unfold f_X11_silentIn at h
  obtain ⟨M1, eM1, h⟩ := of_zlet h
  refine Z_blk k_X11_silentIn 3 (pc' := 5) (lo' := [some (vR 0 21 0), some (vI a1), none, none]) (st' := []) (M1 := M1) (by rw [eM1]; rfl) ?_
  obtain ⟨M2, eM2, h⟩ := of_zlet h
  refine Z_blk k_X11_silentIn 3 (pc' := 10) (lo' := [some (vR 0 21 0), some (vI a1), none, none]) (st' := []) (M1 := M2) (by rw [eM2]; rfl) ?_
  refine Z_blk k_X11_silentIn 2 (pc' := 12) (lo' := [some (vR 0 21 0), some (vI a1), none, none]) (st' := [vI a1, vR 0 21 0]) (M1 := M2) rfl ?_
  obtain ⟨x3, hx3, h⟩ := Option.bind_eq_some_iff.mp h
  refine Z_callV8 k_X11_silentIn k_X11_isCoupleAt rfl rfl (l_11_341) (ci := 11) rfl [vI a1] [] rfl rfl (Nat.le_of_ble_eq_true rfl) (Nat.le_of_ble_eq_true rfl) (e_X11_isCoupleAt (d + 2) a1 M2 _ _ hx3) ?_
  refine Z_if k_X11_silentIn rfl 24 rfl (fun hc => ?_) (fun hc => ?_)
  · replace h := of_pos hc h
    refine Z_blk k_X11_silentIn 3 (pc' := 27) (lo' := [some (vR 0 21 0), some (vI a1), some (vI (-1)), none]) (st' := [vR 0 21 0]) (M1 := x3.2) rfl ?_
    obtain ⟨x4, hx4, h⟩ := Option.bind_eq_some_iff.mp h
    refine Z_callV8 k_X11_silentIn k_X11_puts rfl rfl (l_11_397) (ci := 11) rfl [] [] rfl rfl (Nat.le_of_ble_eq_true rfl) (Nat.le_of_ble_eq_true rfl) (e_X11_puts (d + 3) x3.2 _ hx4) ?_
    refine Z_blk k_X11_silentIn 2 (pc' := 32) (lo' := [some (vR 0 21 0), some (vI a1), some (vI (-1)), some (vI 0)]) (st' := []) (M1 := x4) rfl ?_
    refine Z_mask [true, true, true, true] (lo0 := [some (vR 0 21 0), some (vI a1), some (vI (-1)), some (vI 0)]) rfl ?_
    exact e_X11_silentIn_32 d zB a1 (-1) 0 x4 _ _ h
  · replace h := of_neg hc h
    refine Z_blk k_X11_silentIn 2 (pc' := 20) (lo' := [some (vR 0 21 0), some (vI a1), none, none]) (st' := [vI 2, vR 0 21 0]) (M1 := x3.2) rfl ?_
    obtain ⟨x5, hx5, h⟩ := Option.bind_eq_some_iff.mp h
    refine Z_callV8 k_X11_silentIn k_X11_refuse rfl rfl (l_11_326) (ci := 11) rfl [vI 2] [] rfl rfl (Nat.le_of_ble_eq_true rfl) (Nat.le_of_ble_eq_true rfl) (e_X11_refuse (d + 3) 2 x3.2 _ _ hx5) ?_
    cases h
    exact Z_ret ⟨Or.inl rfl, _, rfl⟩ rfl
def f_X11_holdIn_29 : Nat → Int → Int → AM → Option (Int × AM)
  | 0, _, _, _ => none
  | n + 1, a1, a2, M => if a1 ≤ a2 then ((f_X11_setOf 65 (M 5 (Int.toNat 2)) M).bind fun x1 => (f_X11_gives x1.2).bind fun x2 => some (x1.1, x2)) else ((f_X11_goesDay M).bind fun x3 => f_X11_holdIn_29 n a1 (o_add a2 1) x3.2)
theorem e_X11_holdIn_29 {Y : List (Nat × Nat)} (d : Nat) : ∀ (n : Nat) (a1 : Int) (a2 : Int) (M : AM) (x : Int) (N : AM), f_X11_holdIn_29 n a1 a2 M = some (x, N) → Ev Y (d + 4) m_X11_holdIn 29 [some (vR 0 21 0), some (vI a1), some (vI a2)] [] M (some (vI x)) N := by
  intro n
  induction n with
  | zero => intro a1 a2 M x N h; cases h
  | succ n ih =>
    intro a1 a2 M x N h
    simp only [f_X11_holdIn_29] at h
    refine Z_blk k_X11_holdIn 2 (pc' := 31) (lo' := [some (vR 0 21 0), some (vI a1), some (vI a2)]) (st' := [vI a1, vI a2]) (M1 := M) rfl ?_
    refine Z_icmp k_X11_holdIn rfl 45 rfl (fun hc => ?_) (fun hc => ?_)
    · replace h := of_pos hc h
      refine Z_blk k_X11_holdIn 5 (pc' := 53) (lo' := [some (vR 0 21 0), some (vI a1), some (vI a2)]) (st' := [vI 2, vR 5 0 1775, vI 65, vR 0 21 0]) (M1 := M) rfl ?_
      refine Z_one k_X11_holdIn rfl (pc' := 54) (lo' := [some (vR 0 21 0), some (vI a1), some (vI a2)]) (st' := [vI (M 5 (Int.toNat 2)), vI 65, vR 0 21 0]) (M1 := M) (rfl) ?_
      obtain ⟨x1, hx1, h⟩ := Option.bind_eq_some_iff.mp h
      refine Z_callV8 k_X11_holdIn k_X11_setOf rfl rfl (l_11_329) (ci := 11) rfl [vI 65, vI (M 5 (Int.toNat 2))] [] rfl rfl (Nat.le_of_ble_eq_true rfl) (Nat.le_of_ble_eq_true rfl) (e_X11_setOf (d + 3) 65 (M 5 (Int.toNat 2)) M _ _ hx1) ?_
      refine Z_blk k_X11_holdIn 2 (pc' := 59) (lo' := [some (vR 0 21 0), some (vI a1), some (vI x1.1)]) (st' := [vR 0 21 0]) (M1 := x1.2) rfl ?_
      obtain ⟨x2, hx2, h⟩ := Option.bind_eq_some_iff.mp h
      refine Z_callV8 k_X11_holdIn k_X11_gives rfl rfl (l_11_400) (ci := 11) rfl [] [] rfl rfl (Nat.le_of_ble_eq_true rfl) (Nat.le_of_ble_eq_true rfl) (e_X11_gives (d + 3) x1.2 _ hx2) ?_
      refine Z_blk k_X11_holdIn 1 (pc' := 63) (lo' := [some (vR 0 21 0), some (vI a1), some (vI x1.1)]) (st' := [vI x1.1]) (M1 := x2) rfl ?_
      cases h
      exact Z_ret ⟨Or.inl rfl, _, rfl⟩ rfl
    · replace h := of_neg hc h
      refine Z_blk k_X11_holdIn 1 (pc' := 35) (lo' := [some (vR 0 21 0), some (vI a1), some (vI a2)]) (st' := [vR 0 21 0]) (M1 := M) rfl ?_
      obtain ⟨x3, hx3, h⟩ := Option.bind_eq_some_iff.mp h
      refine Z_callV8 k_X11_holdIn k_X11_goesDay rfl rfl (l_11_361) (ci := 11) rfl [] [] rfl rfl (Nat.le_of_ble_eq_true rfl) (Nat.le_of_ble_eq_true rfl) (e_X11_goesDay (d + 0) M _ _ hx3) ?_
      refine Z_blk k_X11_holdIn 3 (pc' := 29) (lo' := [some (vR 0 21 0), some (vI a1), some (vI (o_add a2 1))]) (st' := []) (M1 := x3.2) rfl ?_
      refine Z_mask [true, true, true] (lo0 := [some (vR 0 21 0), some (vI a1), some (vI (o_add a2 1))]) rfl ?_
      exact ih a1 (o_add a2 1) x3.2 _ _ h
def f_X11_holdIn (a1 : Int) (M : AM) : Option (Int × AM) := zlet (am_upd M 0 1 0) fun M1 => zlet (am_upd M1 0 0 0) fun M2 => (f_X11_isAhead a1 M2).bind fun x3 => if ¬ x3.1 = 0 then ((f_X11_puts x3.2).bind fun x4 => f_X11_holdIn_29 zB a1 0 x4) else ((f_X11_refuse 5 x3.2).bind fun x5 => some (x5.1, x5.2))
theorem e_X11_holdIn {Y : List (Nat × Nat)} (d : Nat) (a1 : Int) (M : AM) (x : Int) (N : AM) (h : f_X11_holdIn a1 M = some (x, N)) : Ev Y (d + 4) m_X11_holdIn 0 [some (vR 0 21 0), some (vI a1), none] [] M (some (vI x)) N := by
  unfold f_X11_holdIn at h
  obtain ⟨M1, eM1, h⟩ := of_zlet h
  refine Z_blk k_X11_holdIn 3 (pc' := 5) (lo' := [some (vR 0 21 0), some (vI a1), none]) (st' := []) (M1 := M1) (by rw [eM1]; rfl) ?_
  obtain ⟨M2, eM2, h⟩ := of_zlet h
  refine Z_blk k_X11_holdIn 3 (pc' := 10) (lo' := [some (vR 0 21 0), some (vI a1), none]) (st' := []) (M1 := M2) (by rw [eM2]; rfl) ?_
  refine Z_blk k_X11_holdIn 1 (pc' := 11) (lo' := [some (vR 0 21 0), some (vI a1), none]) (st' := [vI a1]) (M1 := M2) rfl ?_
  obtain ⟨x3, hx3, h⟩ := Option.bind_eq_some_iff.mp h
  refine Z_callS8 k_X11_holdIn k_X11_isAhead rfl rfl (l_11_394) [vI a1] [] rfl rfl (Nat.le_of_ble_eq_true rfl) (Nat.le_of_ble_eq_true rfl) (e_X11_isAhead (d + 2) a1 M2 _ _ hx3) ?_
  refine Z_if k_X11_holdIn rfl 23 rfl (fun hc => ?_) (fun hc => ?_)
  · replace h := of_pos hc h
    refine Z_blk k_X11_holdIn 1 (pc' := 24) (lo' := [some (vR 0 21 0), some (vI a1), none]) (st' := [vR 0 21 0]) (M1 := x3.2) rfl ?_
    obtain ⟨x4, hx4, h⟩ := Option.bind_eq_some_iff.mp h
    refine Z_callV8 k_X11_holdIn k_X11_puts rfl rfl (l_11_397) (ci := 11) rfl [] [] rfl rfl (Nat.le_of_ble_eq_true rfl) (Nat.le_of_ble_eq_true rfl) (e_X11_puts (d + 3) x3.2 _ hx4) ?_
    refine Z_blk k_X11_holdIn 2 (pc' := 29) (lo' := [some (vR 0 21 0), some (vI a1), some (vI 0)]) (st' := []) (M1 := x4) rfl ?_
    refine Z_mask [true, true, true] (lo0 := [some (vR 0 21 0), some (vI a1), some (vI 0)]) rfl ?_
    exact e_X11_holdIn_29 d zB a1 0 x4 _ _ h
  · replace h := of_neg hc h
    refine Z_blk k_X11_holdIn 2 (pc' := 19) (lo' := [some (vR 0 21 0), some (vI a1), none]) (st' := [vI 5, vR 0 21 0]) (M1 := x3.2) rfl ?_
    obtain ⟨x5, hx5, h⟩ := Option.bind_eq_some_iff.mp h
    refine Z_callV8 k_X11_holdIn k_X11_refuse rfl rfl (l_11_326) (ci := 11) rfl [vI 5] [] rfl rfl (Nat.le_of_ble_eq_true rfl) (Nat.le_of_ble_eq_true rfl) (e_X11_refuse (d + 3) 5 x3.2 _ _ hx5) ?_
    cases h
    exact Z_ret ⟨Or.inl rfl, _, rfl⟩ rfl
theorem l_11_403 : zhas 8131 (Jvm.Cond.methodLink "BellPullHouseModel" 403 yX11_sizeOf) = true := by decide +kernel
def f_X11_mending_86 (k_8 : Int → Int → Int → AM → Option (Int × AM)) (a1 : Int) (a2 : Int) (a3 : Int) (M : AM) : Option (Int × AM) := (f_X11_gives M).bind fun x1 => k_8 a1 a2 (o_add a3 1) x1
theorem e_X11_mending_86 {Y : List (Nat × Nat)} (d : Nat) (k_8 : Int → Int → Int → AM → Option (Int × AM)) (hk_8 : ∀ (a1 : Int) (a2 : Int) (a3 : Int) (M : AM) (x : Int) (N : AM), k_8 a1 a2 a3 M = some (x, N) → Ev Y (d + 4) m_X11_mending 8 [some (vR 0 21 0), some (vI a1), some (vI a2), some (vI a3), none] [] M (some (vI x)) N) (a1 : Int) (a2 : Int) (a3 : Int) (M : AM) (x : Int) (N : AM) (h : f_X11_mending_86 k_8 a1 a2 a3 M = some (x, N)) : Ev Y (d + 4) m_X11_mending 86 [some (vR 0 21 0), some (vI a1), some (vI a2), some (vI a3), none] [] M (some (vI x)) N := by
  unfold f_X11_mending_86 at h
  refine Z_blk k_X11_mending 1 (pc' := 87) (lo' := [some (vR 0 21 0), some (vI a1), some (vI a2), some (vI a3), none]) (st' := [vR 0 21 0]) (M1 := M) rfl ?_
  obtain ⟨x1, hx1, h⟩ := Option.bind_eq_some_iff.mp h
  refine Z_callV8 k_X11_mending k_X11_gives rfl rfl (l_11_400) (ci := 11) rfl [] [] rfl rfl (Nat.le_of_ble_eq_true rfl) (Nat.le_of_ble_eq_true rfl) (e_X11_gives (d + 3) M _ hx1) ?_
  refine Z_blk k_X11_mending 2 (pc' := 8) (lo' := [some (vR 0 21 0), some (vI a1), some (vI a2), some (vI (o_add a3 1)), none]) (st' := []) (M1 := x1) rfl ?_
  refine Z_mask [true, true, true, true, false] (lo0 := [some (vR 0 21 0), some (vI a1), some (vI a2), some (vI (o_add a3 1)), none]) rfl ?_
  exact hk_8 a1 a2 (o_add a3 1) x1 _ _ h
def f_X11_mending_41 (k_8 : Int → Int → Int → AM → Option (Int × AM)) : Nat → Int → Int → Int → Int → AM → Option (Int × AM)
  | 0, _, _, _, _, _ => none
  | n + 1, a1, a2, a3, a4, M => if M 5 (Int.toNat 1) ≤ a4 then ((f_X11_rung M).bind fun x1 => if ¬ o_and x1.1 a1 = a1 then f_X11_mending_86 k_8 a1 a2 a3 x1.2 else f_X11_mending_86 k_8 a1 a3 a3 x1.2) else ((f_X11_has a3 a4 M).bind fun x2 => if x2.1 = 0 then f_X11_mending_41 k_8 n a1 a2 a3 (o_add a4 1) x2.2 else ((f_X11_repairs a4 x2.2).bind fun x3 => f_X11_mending_41 k_8 n a1 a2 a3 (o_add a4 1) x3.2))
theorem e_X11_mending_41 {Y : List (Nat × Nat)} (d : Nat) (k_8 : Int → Int → Int → AM → Option (Int × AM)) (hk_8 : ∀ (a1 : Int) (a2 : Int) (a3 : Int) (M : AM) (x : Int) (N : AM), k_8 a1 a2 a3 M = some (x, N) → Ev Y (d + 4) m_X11_mending 8 [some (vR 0 21 0), some (vI a1), some (vI a2), some (vI a3), none] [] M (some (vI x)) N) : ∀ (n : Nat) (a1 : Int) (a2 : Int) (a3 : Int) (a4 : Int) (M : AM) (x : Int) (N : AM), f_X11_mending_41 k_8 n a1 a2 a3 a4 M = some (x, N) → Ev Y (d + 4) m_X11_mending 41 [some (vR 0 21 0), some (vI a1), some (vI a2), some (vI a3), some (vI a4)] [] M (some (vI x)) N := by
  intro n
  induction n with
  | zero => intro a1 a2 a3 a4 M x N h; cases h
  | succ n ih =>
    intro a1 a2 a3 a4 M x N h
    simp only [f_X11_mending_41] at h
    refine Z_blk k_X11_mending 4 (pc' := 48) (lo' := [some (vR 0 21 0), some (vI a1), some (vI a2), some (vI a3), some (vI a4)]) (st' := [vI 1, vR 5 0 1775, vI a4]) (M1 := M) rfl ?_
    refine Z_one k_X11_mending rfl (pc' := 49) (lo' := [some (vR 0 21 0), some (vI a1), some (vI a2), some (vI a3), some (vI a4)]) (st' := [vI (M 5 (Int.toNat 1)), vI a4]) (M1 := M) (rfl) ?_
    refine Z_icmp k_X11_mending rfl 74 rfl (fun hc => ?_) (fun hc => ?_)
    · replace h := of_pos hc h
      refine Z_blk k_X11_mending 1 (pc' := 75) (lo' := [some (vR 0 21 0), some (vI a1), some (vI a2), some (vI a3), some (vI a4)]) (st' := [vR 0 21 0]) (M1 := M) rfl ?_
      obtain ⟨x1, hx1, h⟩ := Option.bind_eq_some_iff.mp h
      refine Z_callV8 k_X11_mending k_X11_rung rfl rfl (l_11_332) (ci := 11) rfl [] [] rfl rfl (Nat.le_of_ble_eq_true rfl) (Nat.le_of_ble_eq_true rfl) (e_X11_rung (d + 0) M _ _ hx1) ?_
      refine Z_blk k_X11_mending 3 (pc' := 81) (lo' := [some (vR 0 21 0), some (vI a1), some (vI a2), some (vI a3), some (vI a4)]) (st' := [vI a1, vI (o_and x1.1 a1)]) (M1 := x1.2) rfl ?_
      refine Z_icmp k_X11_mending rfl 86 rfl (fun hc => ?_) (fun hc => ?_)
      · replace h := of_pos hc h
        refine Z_mask [true, true, true, true, false] (lo0 := [some (vR 0 21 0), some (vI a1), some (vI a2), some (vI a3), none]) rfl ?_
        exact e_X11_mending_86 d k_8 hk_8 a1 a2 a3 x1.2 _ _ h
      · replace h := of_neg hc h
        refine Z_blk k_X11_mending 2 (pc' := 86) (lo' := [some (vR 0 21 0), some (vI a1), some (vI a3), some (vI a3), some (vI a4)]) (st' := []) (M1 := x1.2) rfl ?_
        refine Z_mask [true, true, true, true, false] (lo0 := [some (vR 0 21 0), some (vI a1), some (vI a3), some (vI a3), none]) rfl ?_
        exact e_X11_mending_86 d k_8 hk_8 a1 a3 a3 x1.2 _ _ h
    · replace h := of_neg hc h
      refine Z_blk k_X11_mending 2 (pc' := 55) (lo' := [some (vR 0 21 0), some (vI a1), some (vI a2), some (vI a3), some (vI a4)]) (st' := [vI a4, vI a3]) (M1 := M) rfl ?_
      obtain ⟨x2, hx2, h⟩ := Option.bind_eq_some_iff.mp h
      refine Z_callS8 k_X11_mending k_X11_has rfl rfl (l_11_108) [vI a3, vI a4] [] rfl rfl (Nat.le_of_ble_eq_true rfl) (Nat.le_of_ble_eq_true rfl) (e_X11_has (d + 3) a3 a4 M _ _ hx2) ?_
      refine Z_if k_X11_mending rfl 68 rfl (fun hc => ?_) (fun hc => ?_)
      · replace h := of_pos hc h
        refine Z_blk k_X11_mending 2 (pc' := 41) (lo' := [some (vR 0 21 0), some (vI a1), some (vI a2), some (vI a3), some (vI (o_add a4 1))]) (st' := []) (M1 := x2.2) rfl ?_
        refine Z_mask [true, true, true, true, true] (lo0 := [some (vR 0 21 0), some (vI a1), some (vI a2), some (vI a3), some (vI (o_add a4 1))]) rfl ?_
        exact ih a1 a2 a3 (o_add a4 1) x2.2 _ _ h
      · replace h := of_neg hc h
        refine Z_blk k_X11_mending 2 (pc' := 64) (lo' := [some (vR 0 21 0), some (vI a1), some (vI a2), some (vI a3), some (vI a4)]) (st' := [vI a4, vR 0 21 0]) (M1 := x2.2) rfl ?_
        obtain ⟨x3, hx3, h⟩ := Option.bind_eq_some_iff.mp h
        refine Z_callV8 k_X11_mending k_X11_repairs rfl rfl (l_11_370) (ci := 11) rfl [vI a4] [] rfl rfl (Nat.le_of_ble_eq_true rfl) (Nat.le_of_ble_eq_true rfl) (e_X11_repairs (d + 3) a4 x2.2 _ _ hx3) ?_
        refine Z_blk k_X11_mending 3 (pc' := 41) (lo' := [some (vR 0 21 0), some (vI a1), some (vI a2), some (vI a3), some (vI (o_add a4 1))]) (st' := []) (M1 := x3.2) rfl ?_
        refine Z_mask [true, true, true, true, true] (lo0 := [some (vR 0 21 0), some (vI a1), some (vI a2), some (vI a3), some (vI (o_add a4 1))]) rfl ?_
        exact ih a1 a2 a3 (o_add a4 1) x3.2 _ _ h
def f_X11_mending_8 : Nat → Int → Int → Int → AM → Option (Int × AM)
  | 0, _, _, _, _ => none
  | n + 1, a1, a2, a3, M => if o_shl 1 (M 5 (Int.toNat 1)) ≤ a3 then some (a2, M) else (if a2 < 0 then f_X11_mending_41 (f_X11_mending_8 n) zB a1 a2 a3 0 M else ((f_X11_sizeOf a3 M).bind fun x1 => (f_X11_sizeOf a2 x1.2).bind fun x2 => if x1.1 < x2.1 then f_X11_mending_41 (f_X11_mending_8 n) zB a1 a2 a3 0 x2.2 else f_X11_mending_8 n a1 a2 (o_add a3 1) x2.2))
theorem e_X11_mending_8 {Y : List (Nat × Nat)} (d : Nat) : ∀ (n : Nat) (a1 : Int) (a2 : Int) (a3 : Int) (M : AM) (x : Int) (N : AM), f_X11_mending_8 n a1 a2 a3 M = some (x, N) → Ev Y (d + 4) m_X11_mending 8 [some (vR 0 21 0), some (vI a1), some (vI a2), some (vI a3), none] [] M (some (vI x)) N := by
  intro n
  induction n with
  | zero => intro a1 a2 a3 M x N h; cases h
  | succ n ih =>
    intro a1 a2 a3 M x N h
    simp only [f_X11_mending_8] at h
    refine Z_blk k_X11_mending 5 (pc' := 15) (lo' := [some (vR 0 21 0), some (vI a1), some (vI a2), some (vI a3), none]) (st' := [vI 1, vR 5 0 1775, vI 1, vI a3]) (M1 := M) rfl ?_
    refine Z_one k_X11_mending rfl (pc' := 16) (lo' := [some (vR 0 21 0), some (vI a1), some (vI a2), some (vI a3), none]) (st' := [vI (M 5 (Int.toNat 1)), vI 1, vI a3]) (M1 := M) (rfl) ?_
    refine Z_blk k_X11_mending 1 (pc' := 17) (lo' := [some (vR 0 21 0), some (vI a1), some (vI a2), some (vI a3), none]) (st' := [vI (o_shl 1 (M 5 (Int.toNat 1))), vI a3]) (M1 := M) rfl ?_
    refine Z_icmp k_X11_mending rfl 96 rfl (fun hc => ?_) (fun hc => ?_)
    · replace h := of_pos hc h
      refine Z_blk k_X11_mending 1 (pc' := 97) (lo' := [some (vR 0 21 0), some (vI a1), some (vI a2), some (vI a3), none]) (st' := [vI a2]) (M1 := M) rfl ?_
      cases h
      exact Z_ret ⟨Or.inl rfl, _, rfl⟩ rfl
    · replace h := of_neg hc h
      refine Z_blk k_X11_mending 1 (pc' := 21) (lo' := [some (vR 0 21 0), some (vI a1), some (vI a2), some (vI a3), none]) (st' := [vI a2]) (M1 := M) rfl ?_
      refine Z_if k_X11_mending rfl 38 rfl (fun hc => ?_) (fun hc => ?_)
      · replace h := of_pos hc h
        refine Z_blk k_X11_mending 2 (pc' := 41) (lo' := [some (vR 0 21 0), some (vI a1), some (vI a2), some (vI a3), some (vI 0)]) (st' := []) (M1 := M) rfl ?_
        refine Z_mask [true, true, true, true, true] (lo0 := [some (vR 0 21 0), some (vI a1), some (vI a2), some (vI a3), some (vI 0)]) rfl ?_
        exact e_X11_mending_41 d (f_X11_mending_8 n) ih zB a1 a2 a3 0 M _ _ h
      · replace h := of_neg hc h
        refine Z_blk k_X11_mending 1 (pc' := 25) (lo' := [some (vR 0 21 0), some (vI a1), some (vI a2), some (vI a3), none]) (st' := [vI a3]) (M1 := M) rfl ?_
        obtain ⟨x1, hx1, h⟩ := Option.bind_eq_some_iff.mp h
        refine Z_callS8 k_X11_mending k_X11_sizeOf rfl rfl (l_11_403) [vI a3] [] rfl rfl (Nat.le_of_ble_eq_true rfl) (Nat.le_of_ble_eq_true rfl) (e_X11_sizeOf (d + 2) a3 M _ _ hx1) ?_
        refine Z_blk k_X11_mending 1 (pc' := 29) (lo' := [some (vR 0 21 0), some (vI a1), some (vI a2), some (vI a3), none]) (st' := [vI a2, vI x1.1]) (M1 := x1.2) rfl ?_
        obtain ⟨x2, hx2, h⟩ := Option.bind_eq_some_iff.mp h
        refine Z_callS8 k_X11_mending k_X11_sizeOf rfl rfl (l_11_403) [vI a2] [vI x1.1] rfl rfl (Nat.le_of_ble_eq_true rfl) (Nat.le_of_ble_eq_true rfl) (e_X11_sizeOf (d + 2) a2 x1.2 _ _ hx2) ?_
        refine Z_icmp k_X11_mending rfl 38 rfl (fun hc => ?_) (fun hc => ?_)
        · replace h := of_pos hc h
          refine Z_blk k_X11_mending 2 (pc' := 41) (lo' := [some (vR 0 21 0), some (vI a1), some (vI a2), some (vI a3), some (vI 0)]) (st' := []) (M1 := x2.2) rfl ?_
          refine Z_mask [true, true, true, true, true] (lo0 := [some (vR 0 21 0), some (vI a1), some (vI a2), some (vI a3), some (vI 0)]) rfl ?_
          exact e_X11_mending_41 d (f_X11_mending_8 n) ih zB a1 a2 a3 0 x2.2 _ _ h
        · replace h := of_neg hc h
          refine Z_blk k_X11_mending 3 (pc' := 8) (lo' := [some (vR 0 21 0), some (vI a1), some (vI a2), some (vI (o_add a3 1)), none]) (st' := []) (M1 := x2.2) rfl ?_
          refine Z_mask [true, true, true, true, false] (lo0 := [some (vR 0 21 0), some (vI a1), some (vI a2), some (vI (o_add a3 1)), none]) rfl ?_
          exact ih a1 a2 (o_add a3 1) x2.2 _ _ h
def f_X11_mending (a1 : Int) (M : AM) : Option (Int × AM) := (f_X11_puts M).bind fun x1 => f_X11_mending_8 zB a1 (-1) 0 x1
theorem e_X11_mending {Y : List (Nat × Nat)} (d : Nat) (a1 : Int) (M : AM) (x : Int) (N : AM) (h : f_X11_mending a1 M = some (x, N)) : Ev Y (d + 4) m_X11_mending 0 [some (vR 0 21 0), some (vI a1), none, none, none] [] M (some (vI x)) N := by
  unfold f_X11_mending at h
  refine Z_blk k_X11_mending 3 (pc' := 3) (lo' := [some (vR 0 21 0), some (vI a1), some (vI (-1)), none, none]) (st' := [vR 0 21 0]) (M1 := M) rfl ?_
  obtain ⟨x1, hx1, h⟩ := Option.bind_eq_some_iff.mp h
  refine Z_callV8 k_X11_mending k_X11_puts rfl rfl (l_11_397) (ci := 11) rfl [] [] rfl rfl (Nat.le_of_ble_eq_true rfl) (Nat.le_of_ble_eq_true rfl) (e_X11_puts (d + 3) M _ hx1) ?_
  refine Z_blk k_X11_mending 2 (pc' := 8) (lo' := [some (vR 0 21 0), some (vI a1), some (vI (-1)), some (vI 0), none]) (st' := []) (M1 := x1) rfl ?_
  refine Z_mask [true, true, true, true, false] (lo0 := [some (vR 0 21 0), some (vI a1), some (vI (-1)), some (vI 0), none]) rfl ?_
  exact e_X11_mending_8 d zB a1 (-1) 0 x1 _ _ h
def f_X11_areCouples (a1 : Int) (M : AM) : Option (Int × AM) := (f_X11_isIn a1 0 (o_sub (o_shl 1 (M 5 (Int.toNat 2))) 1) M).bind fun x1 => if x1.1 = 0 ∨ x1.1 = 1 then some (x1.1, x1.2) else none
theorem e_X11_areCouples {Y : List (Nat × Nat)} (d : Nat) (a1 : Int) (M : AM) (x : Int) (N : AM) (h : f_X11_areCouples a1 M = some (x, N)) : Ev Y (d + 1) m_X11_areCouples 0 [some (vR 0 21 0), some (vI a1)] [] M (some (vI x)) N := by
  unfold f_X11_areCouples at h
  refine Z_blk k_X11_areCouples 7 (pc' := 9) (lo' := [some (vR 0 21 0), some (vI a1)]) (st' := [vI 2, vR 5 0 1775, vI 1, vL 0, vL a1]) (M1 := M) rfl ?_
  refine Z_one k_X11_areCouples rfl (pc' := 10) (lo' := [some (vR 0 21 0), some (vI a1)]) (st' := [vI (M 5 (Int.toNat 2)), vI 1, vL 0, vL a1]) (M1 := M) (rfl) ?_
  refine Z_blk k_X11_areCouples 4 (pc' := 14) (lo' := [some (vR 0 21 0), some (vI a1)]) (st' := [vL (o_sub (o_shl 1 (M 5 (Int.toNat 2))) 1), vL 0, vL a1]) (M1 := M) rfl ?_
  obtain ⟨x1, hx1, h⟩ := Option.bind_eq_some_iff.mp h
  refine Z_callS8 k_X11_areCouples k_X11_isIn rfl rfl (l_11_104) [vL a1, vL 0, vL (o_sub (o_shl 1 (M 5 (Int.toNat 2))) 1)] [] rfl rfl (Nat.le_of_ble_eq_true rfl) (Nat.le_of_ble_eq_true rfl) (e_X11_isIn (d + 0) a1 0 (o_sub (o_shl 1 (M 5 (Int.toNat 2))) 1) M _ _ hx1) ?_
  obtain ⟨hc2, h⟩ := of_grd h
  cases h
  exact Z_ret ⟨Or.inr ⟨rfl, hc2⟩, _, rfl⟩ rfl
theorem l_11_406 : zhas 8123 (Jvm.Cond.methodLink "BellPullHouseModel" 406 yX11_areCouples) = true := by decide +kernel
theorem l_11_409 : zhas 8127 (Jvm.Cond.methodLink "BellPullHouseModel" 409 yX11_mending) = true := by decide +kernel
def f_X11_mends (a1 : Int) (M : AM) : Option (Int × AM) := zlet (am_upd M 0 1 0) fun M1 => zlet (am_upd M1 0 0 0) fun M2 => (f_X11_areCouples a1 M2).bind fun x3 => if ¬ x3.1 = 0 then ((f_X11_mending a1 x3.2).bind fun x4 => if 0 ≤ x4.1 then ((f_X11_sizeOf x4.1 x4.2).bind fun x5 => some (x5.1, x5.2)) else ((f_X11_refuse 8 x4.2).bind fun x6 => some (x6.1, x6.2))) else ((f_X11_refuse 5 x3.2).bind fun x7 => some (x7.1, x7.2))
theorem e_X11_mends {Y : List (Nat × Nat)} (d : Nat) (a1 : Int) (M : AM) (x : Int) (N : AM) (h : f_X11_mends a1 M = some (x, N)) : Ev Y (d + 5) m_X11_mends 0 [some (vR 0 21 0), some (vI a1), none] [] M (some (vI x)) N := by
  unfold f_X11_mends at h
  obtain ⟨M1, eM1, h⟩ := of_zlet h
  refine Z_blk k_X11_mends 3 (pc' := 5) (lo' := [some (vR 0 21 0), some (vI a1), none]) (st' := []) (M1 := M1) (by rw [eM1]; rfl) ?_
  obtain ⟨M2, eM2, h⟩ := of_zlet h
  refine Z_blk k_X11_mends 3 (pc' := 10) (lo' := [some (vR 0 21 0), some (vI a1), none]) (st' := []) (M1 := M2) (by rw [eM2]; rfl) ?_
  refine Z_blk k_X11_mends 2 (pc' := 12) (lo' := [some (vR 0 21 0), some (vI a1), none]) (st' := [vI a1, vR 0 21 0]) (M1 := M2) rfl ?_
  obtain ⟨x3, hx3, h⟩ := Option.bind_eq_some_iff.mp h
  refine Z_callV8 k_X11_mends k_X11_areCouples rfl rfl (l_11_406) (ci := 11) rfl [vI a1] [] rfl rfl (Nat.le_of_ble_eq_true rfl) (Nat.le_of_ble_eq_true rfl) (e_X11_areCouples (d + 3) a1 M2 _ _ hx3) ?_
  refine Z_if k_X11_mends rfl 24 rfl (fun hc => ?_) (fun hc => ?_)
  · replace h := of_pos hc h
    refine Z_blk k_X11_mends 2 (pc' := 26) (lo' := [some (vR 0 21 0), some (vI a1), none]) (st' := [vI a1, vR 0 21 0]) (M1 := x3.2) rfl ?_
    obtain ⟨x4, hx4, h⟩ := Option.bind_eq_some_iff.mp h
    refine Z_callV8 k_X11_mends k_X11_mending rfl rfl (l_11_409) (ci := 11) rfl [vI a1] [] rfl rfl (Nat.le_of_ble_eq_true rfl) (Nat.le_of_ble_eq_true rfl) (e_X11_mending (d + 0) a1 x3.2 _ _ hx4) ?_
    refine Z_blk k_X11_mends 2 (pc' := 31) (lo' := [some (vR 0 21 0), some (vI a1), some (vI x4.1)]) (st' := [vI x4.1]) (M1 := x4.2) rfl ?_
    refine Z_if k_X11_mends rfl 43 rfl (fun hc => ?_) (fun hc => ?_)
    · replace h := of_pos hc h
      refine Z_blk k_X11_mends 1 (pc' := 44) (lo' := [some (vR 0 21 0), some (vI a1), some (vI x4.1)]) (st' := [vI x4.1]) (M1 := x4.2) rfl ?_
      obtain ⟨x5, hx5, h⟩ := Option.bind_eq_some_iff.mp h
      refine Z_callS8 k_X11_mends k_X11_sizeOf rfl rfl (l_11_403) [vI x4.1] [] rfl rfl (Nat.le_of_ble_eq_true rfl) (Nat.le_of_ble_eq_true rfl) (e_X11_sizeOf (d + 3) x4.1 x4.2 _ _ hx5) ?_
      cases h
      exact Z_ret ⟨Or.inl rfl, _, rfl⟩ rfl
    · replace h := of_neg hc h
      refine Z_blk k_X11_mends 2 (pc' := 37) (lo' := [some (vR 0 21 0), some (vI a1), some (vI x4.1)]) (st' := [vI 8, vR 0 21 0]) (M1 := x4.2) rfl ?_
      obtain ⟨x6, hx6, h⟩ := Option.bind_eq_some_iff.mp h
      refine Z_callV8 k_X11_mends k_X11_refuse rfl rfl (l_11_326) (ci := 11) rfl [vI 8] [] rfl rfl (Nat.le_of_ble_eq_true rfl) (Nat.le_of_ble_eq_true rfl) (e_X11_refuse (d + 4) 8 x4.2 _ _ hx6) ?_
      refine Z_blk k_X11_mends 1 (pc' := 47) (lo' := [some (vR 0 21 0), some (vI a1), some (vI x4.1)]) (st' := [vI x6.1]) (M1 := x6.2) rfl ?_
      cases h
      exact Z_ret ⟨Or.inl rfl, _, rfl⟩ rfl
  · replace h := of_neg hc h
    refine Z_blk k_X11_mends 2 (pc' := 20) (lo' := [some (vR 0 21 0), some (vI a1), none]) (st' := [vI 5, vR 0 21 0]) (M1 := x3.2) rfl ?_
    obtain ⟨x7, hx7, h⟩ := Option.bind_eq_some_iff.mp h
    refine Z_callV8 k_X11_mends k_X11_refuse rfl rfl (l_11_326) (ci := 11) rfl [vI 5] [] rfl rfl (Nat.le_of_ble_eq_true rfl) (Nat.le_of_ble_eq_true rfl) (e_X11_refuse (d + 4) 5 x3.2 _ _ hx7) ?_
    cases h
    exact Z_ret ⟨Or.inl rfl, _, rfl⟩ rfl
def f_X11_mendSet (a1 : Int) (M : AM) : Option (Int × AM) := zlet (am_upd M 0 1 0) fun M1 => zlet (am_upd M1 0 0 0) fun M2 => (f_X11_areCouples a1 M2).bind fun x3 => if ¬ x3.1 = 0 then ((f_X11_mending a1 x3.2).bind fun x4 => if 0 ≤ x4.1 then some (x4.1, x4.2) else ((f_X11_refuse 8 x4.2).bind fun x5 => some (x5.1, x5.2))) else ((f_X11_refuse 5 x3.2).bind fun x6 => some (x6.1, x6.2))
theorem e_X11_mendSet {Y : List (Nat × Nat)} (d : Nat) (a1 : Int) (M : AM) (x : Int) (N : AM) (h : f_X11_mendSet a1 M = some (x, N)) : Ev Y (d + 5) m_X11_mendSet 0 [some (vR 0 21 0), some (vI a1), none] [] M (some (vI x)) N := by
  unfold f_X11_mendSet at h
  obtain ⟨M1, eM1, h⟩ := of_zlet h
  refine Z_blk k_X11_mendSet 3 (pc' := 5) (lo' := [some (vR 0 21 0), some (vI a1), none]) (st' := []) (M1 := M1) (by rw [eM1]; rfl) ?_
  obtain ⟨M2, eM2, h⟩ := of_zlet h
  refine Z_blk k_X11_mendSet 3 (pc' := 10) (lo' := [some (vR 0 21 0), some (vI a1), none]) (st' := []) (M1 := M2) (by rw [eM2]; rfl) ?_
  refine Z_blk k_X11_mendSet 2 (pc' := 12) (lo' := [some (vR 0 21 0), some (vI a1), none]) (st' := [vI a1, vR 0 21 0]) (M1 := M2) rfl ?_
  obtain ⟨x3, hx3, h⟩ := Option.bind_eq_some_iff.mp h
  refine Z_callV8 k_X11_mendSet k_X11_areCouples rfl rfl (l_11_406) (ci := 11) rfl [vI a1] [] rfl rfl (Nat.le_of_ble_eq_true rfl) (Nat.le_of_ble_eq_true rfl) (e_X11_areCouples (d + 3) a1 M2 _ _ hx3) ?_
  refine Z_if k_X11_mendSet rfl 24 rfl (fun hc => ?_) (fun hc => ?_)
  · replace h := of_pos hc h
    refine Z_blk k_X11_mendSet 2 (pc' := 26) (lo' := [some (vR 0 21 0), some (vI a1), none]) (st' := [vI a1, vR 0 21 0]) (M1 := x3.2) rfl ?_
    obtain ⟨x4, hx4, h⟩ := Option.bind_eq_some_iff.mp h
    refine Z_callV8 k_X11_mendSet k_X11_mending rfl rfl (l_11_409) (ci := 11) rfl [vI a1] [] rfl rfl (Nat.le_of_ble_eq_true rfl) (Nat.le_of_ble_eq_true rfl) (e_X11_mending (d + 0) a1 x3.2 _ _ hx4) ?_
    refine Z_blk k_X11_mendSet 2 (pc' := 31) (lo' := [some (vR 0 21 0), some (vI a1), some (vI x4.1)]) (st' := [vI x4.1]) (M1 := x4.2) rfl ?_
    refine Z_if k_X11_mendSet rfl 43 rfl (fun hc => ?_) (fun hc => ?_)
    · replace h := of_pos hc h
      refine Z_blk k_X11_mendSet 1 (pc' := 44) (lo' := [some (vR 0 21 0), some (vI a1), some (vI x4.1)]) (st' := [vI x4.1]) (M1 := x4.2) rfl ?_
      cases h
      exact Z_ret ⟨Or.inl rfl, _, rfl⟩ rfl
    · replace h := of_neg hc h
      refine Z_blk k_X11_mendSet 2 (pc' := 37) (lo' := [some (vR 0 21 0), some (vI a1), some (vI x4.1)]) (st' := [vI 8, vR 0 21 0]) (M1 := x4.2) rfl ?_
      obtain ⟨x5, hx5, h⟩ := Option.bind_eq_some_iff.mp h
      refine Z_callV8 k_X11_mendSet k_X11_refuse rfl rfl (l_11_326) (ci := 11) rfl [vI 8] [] rfl rfl (Nat.le_of_ble_eq_true rfl) (Nat.le_of_ble_eq_true rfl) (e_X11_refuse (d + 4) 8 x4.2 _ _ hx5) ?_
      refine Z_blk k_X11_mendSet 1 (pc' := 44) (lo' := [some (vR 0 21 0), some (vI a1), some (vI x4.1)]) (st' := [vI x5.1]) (M1 := x5.2) rfl ?_
      cases h
      exact Z_ret ⟨Or.inl rfl, _, rfl⟩ rfl
  · replace h := of_neg hc h
    refine Z_blk k_X11_mendSet 2 (pc' := 20) (lo' := [some (vR 0 21 0), some (vI a1), none]) (st' := [vI 5, vR 0 21 0]) (M1 := x3.2) rfl ?_
    obtain ⟨x6, hx6, h⟩ := Option.bind_eq_some_iff.mp h
    refine Z_callV8 k_X11_mendSet k_X11_refuse rfl rfl (l_11_326) (ci := 11) rfl [vI 5] [] rfl rfl (Nat.le_of_ble_eq_true rfl) (Nat.le_of_ble_eq_true rfl) (e_X11_refuse (d + 4) 5 x3.2 _ _ hx6) ?_
    cases h
    exact Z_ret ⟨Or.inl rfl, _, rfl⟩ rfl
def f_X11_cutting_132 (k_23 : Int → Int → Int → Int → Int → AM → Option (Int × AM)) (a1 : Int) (a2 : Int) (a3 : Int) (a4 : Int) (a5 : Int) (M : AM) : Option (Int × AM) := (f_X11_gives M).bind fun x1 => k_23 a1 a2 a3 a4 (o_add a5 1) x1
theorem e_X11_cutting_132 {Y : List (Nat × Nat)} (d : Nat) (k_23 : Int → Int → Int → Int → Int → AM → Option (Int × AM)) (hk_23 : ∀ (a1 : Int) (a2 : Int) (a3 : Int) (a4 : Int) (a5 : Int) (M : AM) (x : Int) (N : AM), k_23 a1 a2 a3 a4 a5 M = some (x, N) → Ev Y (d + 2) m_X11_cutting 23 [some (vR 0 21 0), some (vI a1), some (vI a2), some (vI a3), some (vI a4), some (vI a5), none] [] M (some (vI x)) N) (a1 : Int) (a2 : Int) (a3 : Int) (a4 : Int) (a5 : Int) (M : AM) (x : Int) (N : AM) (h : f_X11_cutting_132 k_23 a1 a2 a3 a4 a5 M = some (x, N)) : Ev Y (d + 2) m_X11_cutting 132 [some (vR 0 21 0), some (vI a1), some (vI a2), some (vI a3), some (vI a4), some (vI a5), none] [] M (some (vI x)) N := by
  unfold f_X11_cutting_132 at h
  refine Z_blk k_X11_cutting 1 (pc' := 133) (lo' := [some (vR 0 21 0), some (vI a1), some (vI a2), some (vI a3), some (vI a4), some (vI a5), none]) (st' := [vR 0 21 0]) (M1 := M) rfl ?_
  obtain ⟨x1, hx1, h⟩ := Option.bind_eq_some_iff.mp h
  refine Z_callV8 k_X11_cutting k_X11_gives rfl rfl (l_11_400) (ci := 11) rfl [] [] rfl rfl (Nat.le_of_ble_eq_true rfl) (Nat.le_of_ble_eq_true rfl) (e_X11_gives (d + 1) M _ hx1) ?_
  refine Z_blk k_X11_cutting 2 (pc' := 23) (lo' := [some (vR 0 21 0), some (vI a1), some (vI a2), some (vI a3), some (vI a4), some (vI (o_add a5 1)), none]) (st' := []) (M1 := x1) rfl ?_
  refine Z_mask [true, true, true, true, true, true, false] (lo0 := [some (vR 0 21 0), some (vI a1), some (vI a2), some (vI a3), some (vI a4), some (vI (o_add a5 1)), none]) rfl ?_
  exact hk_23 a1 a2 a3 a4 (o_add a5 1) x1 _ _ h
def f_X11_cutting_77 (k_23 : Int → Int → Int → Int → Int → AM → Option (Int × AM)) : Nat → Int → Int → Int → Int → Int → Int → AM → Option (Int × AM)
  | 0, _, _, _, _, _, _, _ => none
  | n + 1, a1, a2, a3, a4, a5, a6, M => if M 5 (Int.toNat 1) ≤ a6 then ((f_X11_laysFar M).bind fun x1 => (f_X11_isHeard a1 a2 x1).bind fun x2 => if ¬ x2.1 = 0 then f_X11_cutting_132 k_23 a1 a2 a3 a4 a5 x2.2 else f_X11_cutting_132 k_23 a1 a2 a3 a5 a5 x2.2) else ((f_X11_has a5 a6 M).bind fun x3 => if x3.1 = 0 then f_X11_cutting_77 k_23 n a1 a2 a3 a4 a5 (o_add a6 1) x3.2 else (if 0 ≤ o_add 37 a6 ∧ o_add 37 a6 < 1775 then (zlet (am_upd x3.2 5 (Int.toNat (o_add 37 a6)) 0) fun M5 => f_X11_cutting_77 k_23 n a1 a2 a3 a4 a5 (o_add a6 1) M5) else none))
theorem e_X11_cutting_77 {Y : List (Nat × Nat)} (d : Nat) (k_23 : Int → Int → Int → Int → Int → AM → Option (Int × AM)) (hk_23 : ∀ (a1 : Int) (a2 : Int) (a3 : Int) (a4 : Int) (a5 : Int) (M : AM) (x : Int) (N : AM), k_23 a1 a2 a3 a4 a5 M = some (x, N) → Ev Y (d + 2) m_X11_cutting 23 [some (vR 0 21 0), some (vI a1), some (vI a2), some (vI a3), some (vI a4), some (vI a5), none] [] M (some (vI x)) N) : ∀ (n : Nat) (a1 : Int) (a2 : Int) (a3 : Int) (a4 : Int) (a5 : Int) (a6 : Int) (M : AM) (x : Int) (N : AM), f_X11_cutting_77 k_23 n a1 a2 a3 a4 a5 a6 M = some (x, N) → Ev Y (d + 2) m_X11_cutting 77 [some (vR 0 21 0), some (vI a1), some (vI a2), some (vI a3), some (vI a4), some (vI a5), some (vI a6)] [] M (some (vI x)) N := by
  intro n
  induction n with
  | zero => intro a1 a2 a3 a4 a5 a6 M x N h; cases h
  | succ n ih =>
    intro a1 a2 a3 a4 a5 a6 M x N h
    simp only [f_X11_cutting_77] at h
    refine Z_blk k_X11_cutting 4 (pc' := 84) (lo' := [some (vR 0 21 0), some (vI a1), some (vI a2), some (vI a3), some (vI a4), some (vI a5), some (vI a6)]) (st' := [vI 1, vR 5 0 1775, vI a6]) (M1 := M) rfl ?_
    refine Z_one k_X11_cutting rfl (pc' := 85) (lo' := [some (vR 0 21 0), some (vI a1), some (vI a2), some (vI a3), some (vI a4), some (vI a5), some (vI a6)]) (st' := [vI (M 5 (Int.toNat 1)), vI a6]) (M1 := M) (rfl) ?_
    refine Z_icmp k_X11_cutting rfl 115 rfl (fun hc => ?_) (fun hc => ?_)
    · replace h := of_pos hc h
      refine Z_blk k_X11_cutting 1 (pc' := 116) (lo' := [some (vR 0 21 0), some (vI a1), some (vI a2), some (vI a3), some (vI a4), some (vI a5), some (vI a6)]) (st' := [vR 0 21 0]) (M1 := M) rfl ?_
      obtain ⟨x1, hx1, h⟩ := Option.bind_eq_some_iff.mp h
      refine Z_callV8 k_X11_cutting k_X11_laysFar rfl rfl (l_11_318) (ci := 11) rfl [] [] rfl rfl (Nat.le_of_ble_eq_true rfl) (Nat.le_of_ble_eq_true rfl) (e_X11_laysFar (d + 1) M _ hx1) ?_
      refine Z_blk k_X11_cutting 3 (pc' := 122) (lo' := [some (vR 0 21 0), some (vI a1), some (vI a2), some (vI a3), some (vI a4), some (vI a5), some (vI a6)]) (st' := [vI a2, vI a1, vR 0 21 0]) (M1 := x1) rfl ?_
      obtain ⟨x2, hx2, h⟩ := Option.bind_eq_some_iff.mp h
      refine Z_callV8 k_X11_cutting k_X11_isHeard rfl rfl (l_11_315) (ci := 11) rfl [vI a1, vI a2] [] rfl rfl (Nat.le_of_ble_eq_true rfl) (Nat.le_of_ble_eq_true rfl) (e_X11_isHeard (d + 0) a1 a2 x1 _ _ hx2) ?_
      refine Z_if k_X11_cutting rfl 132 rfl (fun hc => ?_) (fun hc => ?_)
      · replace h := of_pos hc h
        refine Z_mask [true, true, true, true, true, true, false] (lo0 := [some (vR 0 21 0), some (vI a1), some (vI a2), some (vI a3), some (vI a4), some (vI a5), none]) rfl ?_
        exact e_X11_cutting_132 d k_23 hk_23 a1 a2 a3 a4 a5 x2.2 _ _ h
      · replace h := of_neg hc h
        refine Z_blk k_X11_cutting 2 (pc' := 132) (lo' := [some (vR 0 21 0), some (vI a1), some (vI a2), some (vI a3), some (vI a5), some (vI a5), some (vI a6)]) (st' := []) (M1 := x2.2) rfl ?_
        refine Z_mask [true, true, true, true, true, true, false] (lo0 := [some (vR 0 21 0), some (vI a1), some (vI a2), some (vI a3), some (vI a5), some (vI a5), none]) rfl ?_
        exact e_X11_cutting_132 d k_23 hk_23 a1 a2 a3 a5 a5 x2.2 _ _ h
    · replace h := of_neg hc h
      refine Z_blk k_X11_cutting 2 (pc' := 92) (lo' := [some (vR 0 21 0), some (vI a1), some (vI a2), some (vI a3), some (vI a4), some (vI a5), some (vI a6)]) (st' := [vI a6, vI a5]) (M1 := M) rfl ?_
      obtain ⟨x3, hx3, h⟩ := Option.bind_eq_some_iff.mp h
      refine Z_callS8 k_X11_cutting k_X11_has rfl rfl (l_11_108) [vI a5, vI a6] [] rfl rfl (Nat.le_of_ble_eq_true rfl) (Nat.le_of_ble_eq_true rfl) (e_X11_has (d + 1) a5 a6 M _ _ hx3) ?_
      refine Z_if k_X11_cutting rfl 109 rfl (fun hc => ?_) (fun hc => ?_)
      · replace h := of_pos hc h
        refine Z_blk k_X11_cutting 2 (pc' := 77) (lo' := [some (vR 0 21 0), some (vI a1), some (vI a2), some (vI a3), some (vI a4), some (vI a5), some (vI (o_add a6 1))]) (st' := []) (M1 := x3.2) rfl ?_
        refine Z_mask [true, true, true, true, true, true, true] (lo0 := [some (vR 0 21 0), some (vI a1), some (vI a2), some (vI a3), some (vI a4), some (vI a5), some (vI (o_add a6 1))]) rfl ?_
        exact ih a1 a2 a3 a4 a5 (o_add a6 1) x3.2 _ _ h
      · replace h := of_neg hc h
        refine Z_blk k_X11_cutting 6 (pc' := 108) (lo' := [some (vR 0 21 0), some (vI a1), some (vI a2), some (vI a3), some (vI a4), some (vI a5), some (vI a6)]) (st' := [vI 0, vI (o_add 37 a6), vR 5 0 1775]) (M1 := x3.2) rfl ?_
        obtain ⟨hc4, h⟩ := of_grd h
        obtain ⟨M5, eM5, h⟩ := of_zlet h
        refine Z_one k_X11_cutting rfl (pc' := 109) (lo' := [some (vR 0 21 0), some (vI a1), some (vI a2), some (vI a3), some (vI a4), some (vI a5), some (vI a6)]) (st' := []) (M1 := M5) (by rw [eM5]; exact if_pos hc4) ?_
        refine Z_blk k_X11_cutting 2 (pc' := 77) (lo' := [some (vR 0 21 0), some (vI a1), some (vI a2), some (vI a3), some (vI a4), some (vI a5), some (vI (o_add a6 1))]) (st' := []) (M1 := M5) rfl ?_
        refine Z_mask [true, true, true, true, true, true, true] (lo0 := [some (vR 0 21 0), some (vI a1), some (vI a2), some (vI a3), some (vI a4), some (vI a5), some (vI (o_add a6 1))]) rfl ?_
        exact ih a1 a2 a3 a4 a5 (o_add a6 1) M5 _ _ h
def f_X11_cutting_23 : Nat → Int → Int → Int → Int → Int → AM → Option (Int × AM)
  | 0, _, _, _, _, _, _ => none
  | n + 1, a1, a2, a3, a4, a5, M => if a3 < a5 then some (a4, M) else (if ¬ o_and a5 (o_xor a3 (-1)) = 0 then f_X11_cutting_23 n a1 a2 a3 a4 (o_add a5 1) M else ((f_X11_sizeOf a5 M).bind fun x1 => (f_X11_sizeOf a4 x1.2).bind fun x2 => if x2.1 < x1.1 then f_X11_cutting_23 n a1 a2 a3 a4 (o_add a5 1) x2.2 else ((f_X11_sizeOf a5 x2.2).bind fun x3 => (f_X11_sizeOf a4 x3.2).bind fun x4 => if ¬ x3.1 = x4.1 then f_X11_cutting_77 (f_X11_cutting_23 n) zB a1 a2 a3 a4 a5 0 x4.2 else (if a5 < a4 then f_X11_cutting_77 (f_X11_cutting_23 n) zB a1 a2 a3 a4 a5 0 x4.2 else f_X11_cutting_23 n a1 a2 a3 a4 (o_add a5 1) x4.2))))
theorem e_X11_cutting_23 {Y : List (Nat × Nat)} (d : Nat) : ∀ (n : Nat) (a1 : Int) (a2 : Int) (a3 : Int) (a4 : Int) (a5 : Int) (M : AM) (x : Int) (N : AM), f_X11_cutting_23 n a1 a2 a3 a4 a5 M = some (x, N) → Ev Y (d + 2) m_X11_cutting 23 [some (vR 0 21 0), some (vI a1), some (vI a2), some (vI a3), some (vI a4), some (vI a5), none] [] M (some (vI x)) N := by
  intro n
  induction n with
  | zero => intro a1 a2 a3 a4 a5 M x N h; cases h
  | succ n ih =>
    intro a1 a2 a3 a4 a5 M x N h
    simp only [f_X11_cutting_23] at h
    refine Z_blk k_X11_cutting 2 (pc' := 26) (lo' := [some (vR 0 21 0), some (vI a1), some (vI a2), some (vI a3), some (vI a4), some (vI a5), none]) (st' := [vI a3, vI a5]) (M1 := M) rfl ?_
    refine Z_icmp k_X11_cutting rfl 142 rfl (fun hc => ?_) (fun hc => ?_)
    · replace h := of_pos hc h
      refine Z_blk k_X11_cutting 1 (pc' := 144) (lo' := [some (vR 0 21 0), some (vI a1), some (vI a2), some (vI a3), some (vI a4), some (vI a5), none]) (st' := [vI a4]) (M1 := M) rfl ?_
      cases h
      exact Z_ret ⟨Or.inl rfl, _, rfl⟩ rfl
    · replace h := of_neg hc h
      refine Z_blk k_X11_cutting 5 (pc' := 35) (lo' := [some (vR 0 21 0), some (vI a1), some (vI a2), some (vI a3), some (vI a4), some (vI a5), none]) (st' := [vI (o_and a5 (o_xor a3 (-1)))]) (M1 := M) rfl ?_
      refine Z_if k_X11_cutting rfl 136 rfl (fun hc => ?_) (fun hc => ?_)
      · replace h := of_pos hc h
        refine Z_blk k_X11_cutting 2 (pc' := 23) (lo' := [some (vR 0 21 0), some (vI a1), some (vI a2), some (vI a3), some (vI a4), some (vI (o_add a5 1)), none]) (st' := []) (M1 := M) rfl ?_
        refine Z_mask [true, true, true, true, true, true, false] (lo0 := [some (vR 0 21 0), some (vI a1), some (vI a2), some (vI a3), some (vI a4), some (vI (o_add a5 1)), none]) rfl ?_
        exact ih a1 a2 a3 a4 (o_add a5 1) M _ _ h
      · replace h := of_neg hc h
        refine Z_blk k_X11_cutting 1 (pc' := 40) (lo' := [some (vR 0 21 0), some (vI a1), some (vI a2), some (vI a3), some (vI a4), some (vI a5), none]) (st' := [vI a5]) (M1 := M) rfl ?_
        obtain ⟨x1, hx1, h⟩ := Option.bind_eq_some_iff.mp h
        refine Z_callS8 k_X11_cutting k_X11_sizeOf rfl rfl (l_11_403) [vI a5] [] rfl rfl (Nat.le_of_ble_eq_true rfl) (Nat.le_of_ble_eq_true rfl) (e_X11_sizeOf (d + 0) a5 M _ _ hx1) ?_
        refine Z_blk k_X11_cutting 1 (pc' := 45) (lo' := [some (vR 0 21 0), some (vI a1), some (vI a2), some (vI a3), some (vI a4), some (vI a5), none]) (st' := [vI a4, vI x1.1]) (M1 := x1.2) rfl ?_
        obtain ⟨x2, hx2, h⟩ := Option.bind_eq_some_iff.mp h
        refine Z_callS8 k_X11_cutting k_X11_sizeOf rfl rfl (l_11_403) [vI a4] [vI x1.1] rfl rfl (Nat.le_of_ble_eq_true rfl) (Nat.le_of_ble_eq_true rfl) (e_X11_sizeOf (d + 0) a4 x1.2 _ _ hx2) ?_
        refine Z_icmp k_X11_cutting rfl 136 rfl (fun hc => ?_) (fun hc => ?_)
        · replace h := of_pos hc h
          refine Z_blk k_X11_cutting 2 (pc' := 23) (lo' := [some (vR 0 21 0), some (vI a1), some (vI a2), some (vI a3), some (vI a4), some (vI (o_add a5 1)), none]) (st' := []) (M1 := x2.2) rfl ?_
          refine Z_mask [true, true, true, true, true, true, false] (lo0 := [some (vR 0 21 0), some (vI a1), some (vI a2), some (vI a3), some (vI a4), some (vI (o_add a5 1)), none]) rfl ?_
          exact ih a1 a2 a3 a4 (o_add a5 1) x2.2 _ _ h
        · replace h := of_neg hc h
          refine Z_blk k_X11_cutting 1 (pc' := 53) (lo' := [some (vR 0 21 0), some (vI a1), some (vI a2), some (vI a3), some (vI a4), some (vI a5), none]) (st' := [vI a5]) (M1 := x2.2) rfl ?_
          obtain ⟨x3, hx3, h⟩ := Option.bind_eq_some_iff.mp h
          refine Z_callS8 k_X11_cutting k_X11_sizeOf rfl rfl (l_11_403) [vI a5] [] rfl rfl (Nat.le_of_ble_eq_true rfl) (Nat.le_of_ble_eq_true rfl) (e_X11_sizeOf (d + 0) a5 x2.2 _ _ hx3) ?_
          refine Z_blk k_X11_cutting 1 (pc' := 58) (lo' := [some (vR 0 21 0), some (vI a1), some (vI a2), some (vI a3), some (vI a4), some (vI a5), none]) (st' := [vI a4, vI x3.1]) (M1 := x3.2) rfl ?_
          obtain ⟨x4, hx4, h⟩ := Option.bind_eq_some_iff.mp h
          refine Z_callS8 k_X11_cutting k_X11_sizeOf rfl rfl (l_11_403) [vI a4] [vI x3.1] rfl rfl (Nat.le_of_ble_eq_true rfl) (Nat.le_of_ble_eq_true rfl) (e_X11_sizeOf (d + 0) a4 x3.2 _ _ hx4) ?_
          refine Z_icmp k_X11_cutting rfl 74 rfl (fun hc => ?_) (fun hc => ?_)
          · replace h := of_pos hc h
            refine Z_blk k_X11_cutting 2 (pc' := 77) (lo' := [some (vR 0 21 0), some (vI a1), some (vI a2), some (vI a3), some (vI a4), some (vI a5), some (vI 0)]) (st' := []) (M1 := x4.2) rfl ?_
            refine Z_mask [true, true, true, true, true, true, true] (lo0 := [some (vR 0 21 0), some (vI a1), some (vI a2), some (vI a3), some (vI a4), some (vI a5), some (vI 0)]) rfl ?_
            exact e_X11_cutting_77 d (f_X11_cutting_23 n) ih zB a1 a2 a3 a4 a5 0 x4.2 _ _ h
          · replace h := of_neg hc h
            refine Z_blk k_X11_cutting 2 (pc' := 68) (lo' := [some (vR 0 21 0), some (vI a1), some (vI a2), some (vI a3), some (vI a4), some (vI a5), none]) (st' := [vI a4, vI a5]) (M1 := x4.2) rfl ?_
            refine Z_icmp k_X11_cutting rfl 74 rfl (fun hc => ?_) (fun hc => ?_)
            · replace h := of_pos hc h
              refine Z_blk k_X11_cutting 2 (pc' := 77) (lo' := [some (vR 0 21 0), some (vI a1), some (vI a2), some (vI a3), some (vI a4), some (vI a5), some (vI 0)]) (st' := []) (M1 := x4.2) rfl ?_
              refine Z_mask [true, true, true, true, true, true, true] (lo0 := [some (vR 0 21 0), some (vI a1), some (vI a2), some (vI a3), some (vI a4), some (vI a5), some (vI 0)]) rfl ?_
              exact e_X11_cutting_77 d (f_X11_cutting_23 n) ih zB a1 a2 a3 a4 a5 0 x4.2 _ _ h
            · replace h := of_neg hc h
              refine Z_blk k_X11_cutting 3 (pc' := 23) (lo' := [some (vR 0 21 0), some (vI a1), some (vI a2), some (vI a3), some (vI a4), some (vI (o_add a5 1)), none]) (st' := []) (M1 := x4.2) rfl ?_
              refine Z_mask [true, true, true, true, true, true, false] (lo0 := [some (vR 0 21 0), some (vI a1), some (vI a2), some (vI a3), some (vI a4), some (vI (o_add a5 1)), none]) rfl ?_
              exact ih a1 a2 a3 a4 (o_add a5 1) x4.2 _ _ h
def f_X11_cutting (a1 : Int) (a2 : Int) (M : AM) : Option (Int × AM) := (f_X11_setOf 37 (M 5 (Int.toNat 1)) M).bind fun x1 => (f_X11_puts x1.2).bind fun x2 => f_X11_cutting_23 zB a1 a2 x1.1 x1.1 0 x2
theorem e_X11_cutting {Y : List (Nat × Nat)} (d : Nat) (a1 : Int) (a2 : Int) (M : AM) (x : Int) (N : AM) (h : f_X11_cutting a1 a2 M = some (x, N)) : Ev Y (d + 2) m_X11_cutting 0 [some (vR 0 21 0), some (vI a1), some (vI a2), none, none, none, none] [] M (some (vI x)) N := by
  unfold f_X11_cutting at h
  refine Z_blk k_X11_cutting 5 (pc' := 8) (lo' := [some (vR 0 21 0), some (vI a1), some (vI a2), none, none, none, none]) (st' := [vI 1, vR 5 0 1775, vI 37, vR 0 21 0]) (M1 := M) rfl ?_
  refine Z_one k_X11_cutting rfl (pc' := 9) (lo' := [some (vR 0 21 0), some (vI a1), some (vI a2), none, none, none, none]) (st' := [vI (M 5 (Int.toNat 1)), vI 37, vR 0 21 0]) (M1 := M) (rfl) ?_
  obtain ⟨x1, hx1, h⟩ := Option.bind_eq_some_iff.mp h
  refine Z_callV8 k_X11_cutting k_X11_setOf rfl rfl (l_11_329) (ci := 11) rfl [vI 37, vI (M 5 (Int.toNat 1))] [] rfl rfl (Nat.le_of_ble_eq_true rfl) (Nat.le_of_ble_eq_true rfl) (e_X11_setOf (d + 1) 37 (M 5 (Int.toNat 1)) M _ _ hx1) ?_
  refine Z_blk k_X11_cutting 4 (pc' := 17) (lo' := [some (vR 0 21 0), some (vI a1), some (vI a2), some (vI x1.1), some (vI x1.1), none, none]) (st' := [vR 0 21 0]) (M1 := x1.2) rfl ?_
  obtain ⟨x2, hx2, h⟩ := Option.bind_eq_some_iff.mp h
  refine Z_callV8 k_X11_cutting k_X11_puts rfl rfl (l_11_397) (ci := 11) rfl [] [] rfl rfl (Nat.le_of_ble_eq_true rfl) (Nat.le_of_ble_eq_true rfl) (e_X11_puts (d + 1) x1.2 _ hx2) ?_
  refine Z_blk k_X11_cutting 2 (pc' := 23) (lo' := [some (vR 0 21 0), some (vI a1), some (vI a2), some (vI x1.1), some (vI x1.1), some (vI 0), none]) (st' := []) (M1 := x2) rfl ?_
  refine Z_mask [true, true, true, true, true, true, false] (lo0 := [some (vR 0 21 0), some (vI a1), some (vI a2), some (vI x1.1), some (vI x1.1), some (vI 0), none]) rfl ?_
  exact e_X11_cutting_23 d zB a1 a2 x1.1 x1.1 0 x2 _ _ h
def f_X11_whyNoCuts (a1 : Int) (a2 : Int) (M : AM) : Option (Int × AM) := (f_X11_isRoomAt a1 M).bind fun x1 => if x1.1 = 0 then some (2, x1.2) else ((f_X11_isRoomAt a2 x1.2).bind fun x2 => if ¬ x2.1 = 0 then (if ¬ a1 = a2 then some (0, x2.2) else some (5, x2.2)) else some (2, x2.2))
theorem e_X11_whyNoCuts {Y : List (Nat × Nat)} (d : Nat) (a1 : Int) (a2 : Int) (M : AM) (x : Int) (N : AM) (h : f_X11_whyNoCuts a1 a2 M = some (x, N)) : Ev Y (d + 2) m_X11_whyNoCuts 0 [some (vR 0 21 0), some (vI a1), some (vI a2)] [] M (some (vI x)) N := by
  unfold f_X11_whyNoCuts at h
  refine Z_blk k_X11_whyNoCuts 2 (pc' := 2) (lo' := [some (vR 0 21 0), some (vI a1), some (vI a2)]) (st' := [vI a1, vR 0 21 0]) (M1 := M) rfl ?_
  obtain ⟨x1, hx1, h⟩ := Option.bind_eq_some_iff.mp h
  refine Z_callV8 k_X11_whyNoCuts k_X11_isRoomAt rfl rfl (l_11_375) (ci := 11) rfl [vI a1] [] rfl rfl (Nat.le_of_ble_eq_true rfl) (Nat.le_of_ble_eq_true rfl) (e_X11_isRoomAt (d + 0) a1 M _ _ hx1) ?_
  refine Z_if k_X11_whyNoCuts rfl 16 rfl (fun hc => ?_) (fun hc => ?_)
  · replace h := of_pos hc h
    refine Z_blk k_X11_whyNoCuts 2 (pc' := 30) (lo' := [some (vR 0 21 0), some (vI a1), some (vI a2)]) (st' := [vI 2]) (M1 := x1.2) rfl ?_
    cases h
    exact Z_ret ⟨Or.inl rfl, _, rfl⟩ rfl
  · replace h := of_neg hc h
    refine Z_blk k_X11_whyNoCuts 2 (pc' := 10) (lo' := [some (vR 0 21 0), some (vI a1), some (vI a2)]) (st' := [vI a2, vR 0 21 0]) (M1 := x1.2) rfl ?_
    obtain ⟨x2, hx2, h⟩ := Option.bind_eq_some_iff.mp h
    refine Z_callV8 k_X11_whyNoCuts k_X11_isRoomAt rfl rfl (l_11_375) (ci := 11) rfl [vI a2] [] rfl rfl (Nat.le_of_ble_eq_true rfl) (Nat.le_of_ble_eq_true rfl) (e_X11_isRoomAt (d + 0) a2 x1.2 _ _ hx2) ?_
    refine Z_if k_X11_whyNoCuts rfl 20 rfl (fun hc => ?_) (fun hc => ?_)
    · replace h := of_pos hc h
      refine Z_blk k_X11_whyNoCuts 2 (pc' := 22) (lo' := [some (vR 0 21 0), some (vI a1), some (vI a2)]) (st' := [vI a2, vI a1]) (M1 := x2.2) rfl ?_
      refine Z_icmp k_X11_whyNoCuts rfl 29 rfl (fun hc => ?_) (fun hc => ?_)
      · replace h := of_pos hc h
        refine Z_blk k_X11_whyNoCuts 1 (pc' := 30) (lo' := [some (vR 0 21 0), some (vI a1), some (vI a2)]) (st' := [vI 0]) (M1 := x2.2) rfl ?_
        cases h
        exact Z_ret ⟨Or.inl rfl, _, rfl⟩ rfl
      · replace h := of_neg hc h
        refine Z_blk k_X11_whyNoCuts 2 (pc' := 30) (lo' := [some (vR 0 21 0), some (vI a1), some (vI a2)]) (st' := [vI 5]) (M1 := x2.2) rfl ?_
        cases h
        exact Z_ret ⟨Or.inl rfl, _, rfl⟩ rfl
    · replace h := of_neg hc h
      refine Z_blk k_X11_whyNoCuts 2 (pc' := 30) (lo' := [some (vR 0 21 0), some (vI a1), some (vI a2)]) (st' := [vI 2]) (M1 := x2.2) rfl ?_
      cases h
      exact Z_ret ⟨Or.inl rfl, _, rfl⟩ rfl
theorem l_11_412 : zhas 8142 (Jvm.Cond.methodLink "BellPullHouseModel" 412 yX11_whyNoCuts) = true := by decide +kernel
theorem l_11_415 : zhas 8146 (Jvm.Cond.methodLink "BellPullHouseModel" 415 yX11_cutting) = true := by decide +kernel
def f_X11_cuts (a1 : Int) (a2 : Int) (M : AM) : Option (Int × AM) := zlet (am_upd M 0 1 0) fun M1 => (f_X11_whyNoCuts a1 a2 M1).bind fun x2 => zlet (am_upd x2.2 0 0 x2.1) fun M3 => if M3 0 0 ≤ 0 then ((f_X11_cutting a1 a2 M3).bind fun x4 => (f_X11_sizeOf x4.1 x4.2).bind fun x5 => some (x5.1, x5.2)) else some ((-1), M3)
theorem e_X11_cuts {Y : List (Nat × Nat)} (d : Nat) (a1 : Int) (a2 : Int) (M : AM) (x : Int) (N : AM) (h : f_X11_cuts a1 a2 M = some (x, N)) : Ev Y (d + 3) m_X11_cuts 0 [some (vR 0 21 0), some (vI a1), some (vI a2)] [] M (some (vI x)) N := by
  unfold f_X11_cuts at h
  obtain ⟨M1, eM1, h⟩ := of_zlet h
  refine Z_blk k_X11_cuts 3 (pc' := 5) (lo' := [some (vR 0 21 0), some (vI a1), some (vI a2)]) (st' := []) (M1 := M1) (by rw [eM1]; rfl) ?_
  refine Z_blk k_X11_cuts 4 (pc' := 9) (lo' := [some (vR 0 21 0), some (vI a1), some (vI a2)]) (st' := [vI a2, vI a1, vR 0 21 0, vR 0 21 0]) (M1 := M1) rfl ?_
  obtain ⟨x2, hx2, h⟩ := Option.bind_eq_some_iff.mp h
  refine Z_callV8 k_X11_cuts k_X11_whyNoCuts rfl rfl (l_11_412) (ci := 11) rfl [vI a1, vI a2] [vR 0 21 0] rfl rfl (Nat.le_of_ble_eq_true rfl) (Nat.le_of_ble_eq_true rfl) (e_X11_whyNoCuts (d + 0) a1 a2 M1 _ _ hx2) ?_
  obtain ⟨M3, eM3, h⟩ := of_zlet h
  refine Z_blk k_X11_cuts 1 (pc' := 15) (lo' := [some (vR 0 21 0), some (vI a1), some (vI a2)]) (st' := []) (M1 := M3) (by rw [eM3]; rfl) ?_
  refine Z_blk k_X11_cuts 2 (pc' := 19) (lo' := [some (vR 0 21 0), some (vI a1), some (vI a2)]) (st' := [vI (M3 0 0)]) (M1 := M3) rfl ?_
  refine Z_if k_X11_cuts rfl 26 rfl (fun hc => ?_) (fun hc => ?_)
  · replace h := of_pos hc h
    refine Z_blk k_X11_cuts 3 (pc' := 29) (lo' := [some (vR 0 21 0), some (vI a1), some (vI a2)]) (st' := [vI a2, vI a1, vR 0 21 0]) (M1 := M3) rfl ?_
    obtain ⟨x4, hx4, h⟩ := Option.bind_eq_some_iff.mp h
    refine Z_callV8 k_X11_cuts k_X11_cutting rfl rfl (l_11_415) (ci := 11) rfl [vI a1, vI a2] [] rfl rfl (Nat.le_of_ble_eq_true rfl) (Nat.le_of_ble_eq_true rfl) (e_X11_cutting (d + 0) a1 a2 M3 _ _ hx4) ?_
    obtain ⟨x5, hx5, h⟩ := Option.bind_eq_some_iff.mp h
    refine Z_callS8 k_X11_cuts k_X11_sizeOf rfl rfl (l_11_403) [vI x4.1] [] rfl rfl (Nat.le_of_ble_eq_true rfl) (Nat.le_of_ble_eq_true rfl) (e_X11_sizeOf (d + 1) x4.1 x4.2 _ _ hx5) ?_
    cases h
    exact Z_ret ⟨Or.inl rfl, _, rfl⟩ rfl
  · replace h := of_neg hc h
    refine Z_blk k_X11_cuts 2 (pc' := 35) (lo' := [some (vR 0 21 0), some (vI a1), some (vI a2)]) (st' := [vI (-1)]) (M1 := M3) rfl ?_
    cases h
    exact Z_ret ⟨Or.inl rfl, _, rfl⟩ rfl
def f_X11_cutSet (a1 : Int) (a2 : Int) (M : AM) : Option (Int × AM) := zlet (am_upd M 0 1 0) fun M1 => (f_X11_whyNoCuts a1 a2 M1).bind fun x2 => zlet (am_upd x2.2 0 0 x2.1) fun M3 => if M3 0 0 ≤ 0 then ((f_X11_cutting a1 a2 M3).bind fun x4 => some (x4.1, x4.2)) else some ((-1), M3)
theorem e_X11_cutSet {Y : List (Nat × Nat)} (d : Nat) (a1 : Int) (a2 : Int) (M : AM) (x : Int) (N : AM) (h : f_X11_cutSet a1 a2 M = some (x, N)) : Ev Y (d + 3) m_X11_cutSet 0 [some (vR 0 21 0), some (vI a1), some (vI a2)] [] M (some (vI x)) N := by
  unfold f_X11_cutSet at h
  obtain ⟨M1, eM1, h⟩ := of_zlet h
  refine Z_blk k_X11_cutSet 3 (pc' := 5) (lo' := [some (vR 0 21 0), some (vI a1), some (vI a2)]) (st' := []) (M1 := M1) (by rw [eM1]; rfl) ?_
  refine Z_blk k_X11_cutSet 4 (pc' := 9) (lo' := [some (vR 0 21 0), some (vI a1), some (vI a2)]) (st' := [vI a2, vI a1, vR 0 21 0, vR 0 21 0]) (M1 := M1) rfl ?_
  obtain ⟨x2, hx2, h⟩ := Option.bind_eq_some_iff.mp h
  refine Z_callV8 k_X11_cutSet k_X11_whyNoCuts rfl rfl (l_11_412) (ci := 11) rfl [vI a1, vI a2] [vR 0 21 0] rfl rfl (Nat.le_of_ble_eq_true rfl) (Nat.le_of_ble_eq_true rfl) (e_X11_whyNoCuts (d + 0) a1 a2 M1 _ _ hx2) ?_
  obtain ⟨M3, eM3, h⟩ := of_zlet h
  refine Z_blk k_X11_cutSet 1 (pc' := 15) (lo' := [some (vR 0 21 0), some (vI a1), some (vI a2)]) (st' := []) (M1 := M3) (by rw [eM3]; rfl) ?_
  refine Z_blk k_X11_cutSet 2 (pc' := 19) (lo' := [some (vR 0 21 0), some (vI a1), some (vI a2)]) (st' := [vI (M3 0 0)]) (M1 := M3) rfl ?_
  refine Z_if k_X11_cutSet rfl 26 rfl (fun hc => ?_) (fun hc => ?_)
  · replace h := of_pos hc h
    refine Z_blk k_X11_cutSet 3 (pc' := 29) (lo' := [some (vR 0 21 0), some (vI a1), some (vI a2)]) (st' := [vI a2, vI a1, vR 0 21 0]) (M1 := M3) rfl ?_
    obtain ⟨x4, hx4, h⟩ := Option.bind_eq_some_iff.mp h
    refine Z_callV8 k_X11_cutSet k_X11_cutting rfl rfl (l_11_415) (ci := 11) rfl [vI a1, vI a2] [] rfl rfl (Nat.le_of_ble_eq_true rfl) (Nat.le_of_ble_eq_true rfl) (e_X11_cutting (d + 0) a1 a2 M3 _ _ hx4) ?_
    cases h
    exact Z_ret ⟨Or.inl rfl, _, rfl⟩ rfl
  · replace h := of_neg hc h
    refine Z_blk k_X11_cutSet 2 (pc' := 32) (lo' := [some (vR 0 21 0), some (vI a1), some (vI a2)]) (st' := [vI (-1)]) (M1 := M3) rfl ?_
    cases h
    exact Z_ret ⟨Or.inl rfl, _, rfl⟩ rfl
def f_X11_lostBy (a1 : Int) (M : AM) : Option (Int × AM) := (f_X11_rung M).bind fun x1 => if 0 ≤ o_add 37 a1 ∧ o_add 37 a1 < 1775 then (zlet (am_upd x1.2 5 (Int.toNat (o_add 37 a1)) 0) fun M3 => (f_X11_rung M3).bind fun x4 => zlet (am_upd x4.2 5 (Int.toNat (o_add 37 a1)) 1) fun M5 => some (o_and x1.1 (o_xor x4.1 (-1)), M5)) else none
theorem e_X11_lostBy {Y : List (Nat × Nat)} (d : Nat) (a1 : Int) (M : AM) (x : Int) (N : AM) (h : f_X11_lostBy a1 M = some (x, N)) : Ev Y (d + 4) m_X11_lostBy 0 [some (vR 0 21 0), some (vI a1), none, none] [] M (some (vI x)) N := by
  unfold f_X11_lostBy at h
  refine Z_blk k_X11_lostBy 1 (pc' := 1) (lo' := [some (vR 0 21 0), some (vI a1), none, none]) (st' := [vR 0 21 0]) (M1 := M) rfl ?_
  obtain ⟨x1, hx1, h⟩ := Option.bind_eq_some_iff.mp h
  refine Z_callV8 k_X11_lostBy k_X11_rung rfl rfl (l_11_332) (ci := 11) rfl [] [] rfl rfl (Nat.le_of_ble_eq_true rfl) (Nat.le_of_ble_eq_true rfl) (e_X11_rung (d + 0) M _ _ hx1) ?_
  refine Z_blk k_X11_lostBy 7 (pc' := 14) (lo' := [some (vR 0 21 0), some (vI a1), some (vI x1.1), none]) (st' := [vI 0, vI (o_add 37 a1), vR 5 0 1775]) (M1 := x1.2) rfl ?_
  obtain ⟨hc2, h⟩ := of_grd h
  obtain ⟨M3, eM3, h⟩ := of_zlet h
  refine Z_one k_X11_lostBy rfl (pc' := 15) (lo' := [some (vR 0 21 0), some (vI a1), some (vI x1.1), none]) (st' := []) (M1 := M3) (by rw [eM3]; exact if_pos hc2) ?_
  refine Z_blk k_X11_lostBy 1 (pc' := 16) (lo' := [some (vR 0 21 0), some (vI a1), some (vI x1.1), none]) (st' := [vR 0 21 0]) (M1 := M3) rfl ?_
  obtain ⟨x4, hx4, h⟩ := Option.bind_eq_some_iff.mp h
  refine Z_callV8 k_X11_lostBy k_X11_rung rfl rfl (l_11_332) (ci := 11) rfl [] [] rfl rfl (Nat.le_of_ble_eq_true rfl) (Nat.le_of_ble_eq_true rfl) (e_X11_rung (d + 0) M3 _ _ hx4) ?_
  refine Z_blk k_X11_lostBy 7 (pc' := 29) (lo' := [some (vR 0 21 0), some (vI a1), some (vI x1.1), some (vI x4.1)]) (st' := [vI 1, vI (o_add 37 a1), vR 5 0 1775]) (M1 := x4.2) rfl ?_
  obtain ⟨M5, eM5, h⟩ := of_zlet h
  refine Z_one k_X11_lostBy rfl (pc' := 30) (lo' := [some (vR 0 21 0), some (vI a1), some (vI x1.1), some (vI x4.1)]) (st' := []) (M1 := M5) (by rw [eM5]; exact if_pos hc2) ?_
  refine Z_blk k_X11_lostBy 5 (pc' := 35) (lo' := [some (vR 0 21 0), some (vI a1), some (vI x1.1), some (vI x4.1)]) (st' := [vI (o_and x1.1 (o_xor x4.1 (-1)))]) (M1 := M5) rfl ?_
  cases h
  exact Z_ret ⟨Or.inl rfl, _, rfl⟩ rfl
theorem l_11_418 : zhas 8158 (Jvm.Cond.methodLink "BellPullHouseModel" 418 yX11_lostBy) = true := by decide +kernel
def f_X11_hangs_46 : Nat → Int → Int → Int → AM → Option (Int × AM)
  | 0, _, _, _, _ => none
  | n + 1, a1, a2, a3, M => if M 5 (Int.toNat 1) ≤ a3 then some (a2, M) else (if 0 ≤ o_add 37 a3 ∧ o_add 37 a3 < 1775 then (if ¬ M 5 (Int.toNat (o_add 37 a3)) = 1 then f_X11_hangs_46 n a1 (o_or a2 0) (o_add a3 1) M else ((f_X11_lostBy a3 M).bind fun x2 => (f_X11_has x2.1 a1 x2.2).bind fun x3 => if x3.1 = 0 then f_X11_hangs_46 n a1 (o_or a2 0) (o_add a3 1) x3.2 else f_X11_hangs_46 n a1 (o_or a2 (o_shl 1 a3)) (o_add a3 1) x3.2)) else none)
theorem e_X11_hangs_46 {Y : List (Nat × Nat)} (d : Nat) : ∀ (n : Nat) (a1 : Int) (a2 : Int) (a3 : Int) (M : AM) (x : Int) (N : AM), f_X11_hangs_46 n a1 a2 a3 M = some (x, N) → Ev Y (d + 5) m_X11_hangs 46 [some (vR 0 21 0), some (vI a1), some (vI a2), some (vI a3)] [] M (some (vI x)) N := by
  intro n
  induction n with
  | zero => intro a1 a2 a3 M x N h; cases h
  | succ n ih =>
    intro a1 a2 a3 M x N h
    simp only [f_X11_hangs_46] at h
    refine Z_blk k_X11_hangs 4 (pc' := 52) (lo' := [some (vR 0 21 0), some (vI a1), some (vI a2), some (vI a3)]) (st' := [vI 1, vR 5 0 1775, vI a3]) (M1 := M) rfl ?_
    refine Z_one k_X11_hangs rfl (pc' := 53) (lo' := [some (vR 0 21 0), some (vI a1), some (vI a2), some (vI a3)]) (st' := [vI (M 5 (Int.toNat 1)), vI a3]) (M1 := M) (rfl) ?_
    refine Z_icmp k_X11_hangs rfl 97 rfl (fun hc => ?_) (fun hc => ?_)
    · replace h := of_pos hc h
      refine Z_blk k_X11_hangs 1 (pc' := 98) (lo' := [some (vR 0 21 0), some (vI a1), some (vI a2), some (vI a3)]) (st' := [vI a2]) (M1 := M) rfl ?_
      cases h
      exact Z_ret ⟨Or.inl rfl, _, rfl⟩ rfl
    · replace h := of_neg hc h
      refine Z_blk k_X11_hangs 6 (pc' := 65) (lo' := [some (vR 0 21 0), some (vI a1), some (vI a2), some (vI a3)]) (st' := [vI (o_add 37 a3), vR 5 0 1775, vI a2]) (M1 := M) rfl ?_
      obtain ⟨hc1, h⟩ := of_grd h
      refine Z_one k_X11_hangs rfl (pc' := 66) (lo' := [some (vR 0 21 0), some (vI a1), some (vI a2), some (vI a3)]) (st' := [vI (M 5 (Int.toNat (o_add 37 a3))), vI a2]) (M1 := M) (if_pos hc1) ?_
      refine Z_blk k_X11_hangs 1 (pc' := 67) (lo' := [some (vR 0 21 0), some (vI a1), some (vI a2), some (vI a3)]) (st' := [vI 1, vI (M 5 (Int.toNat (o_add 37 a3))), vI a2]) (M1 := M) rfl ?_
      refine Z_icmp k_X11_hangs rfl 88 rfl (fun hc => ?_) (fun hc => ?_)
      · replace h := of_pos hc h
        refine Z_blk k_X11_hangs 5 (pc' := 46) (lo' := [some (vR 0 21 0), some (vI a1), some (vI (o_or a2 0)), some (vI (o_add a3 1))]) (st' := []) (M1 := M) rfl ?_
        refine Z_mask [true, true, true, true] (lo0 := [some (vR 0 21 0), some (vI a1), some (vI (o_or a2 0)), some (vI (o_add a3 1))]) rfl ?_
        exact ih a1 (o_or a2 0) (o_add a3 1) M _ _ h
      · replace h := of_neg hc h
        refine Z_blk k_X11_hangs 2 (pc' := 72) (lo' := [some (vR 0 21 0), some (vI a1), some (vI a2), some (vI a3)]) (st' := [vI a3, vR 0 21 0, vI a2]) (M1 := M) rfl ?_
        obtain ⟨x2, hx2, h⟩ := Option.bind_eq_some_iff.mp h
        refine Z_callV8 k_X11_hangs k_X11_lostBy rfl rfl (l_11_418) (ci := 11) rfl [vI a3] [vI a2] rfl rfl (Nat.le_of_ble_eq_true rfl) (Nat.le_of_ble_eq_true rfl) (e_X11_lostBy (d + 0) a3 M _ _ hx2) ?_
        refine Z_blk k_X11_hangs 1 (pc' := 76) (lo' := [some (vR 0 21 0), some (vI a1), some (vI a2), some (vI a3)]) (st' := [vI a1, vI x2.1, vI a2]) (M1 := x2.2) rfl ?_
        obtain ⟨x3, hx3, h⟩ := Option.bind_eq_some_iff.mp h
        refine Z_callS8 k_X11_hangs k_X11_has rfl rfl (l_11_108) [vI x2.1, vI a1] [vI a2] rfl rfl (Nat.le_of_ble_eq_true rfl) (Nat.le_of_ble_eq_true rfl) (e_X11_has (d + 4) x2.1 a1 x2.2 _ _ hx3) ?_
        refine Z_if k_X11_hangs rfl 88 rfl (fun hc => ?_) (fun hc => ?_)
        · replace h := of_pos hc h
          refine Z_blk k_X11_hangs 5 (pc' := 46) (lo' := [some (vR 0 21 0), some (vI a1), some (vI (o_or a2 0)), some (vI (o_add a3 1))]) (st' := []) (M1 := x3.2) rfl ?_
          refine Z_mask [true, true, true, true] (lo0 := [some (vR 0 21 0), some (vI a1), some (vI (o_or a2 0)), some (vI (o_add a3 1))]) rfl ?_
          exact ih a1 (o_or a2 0) (o_add a3 1) x3.2 _ _ h
        · replace h := of_neg hc h
          refine Z_blk k_X11_hangs 8 (pc' := 46) (lo' := [some (vR 0 21 0), some (vI a1), some (vI (o_or a2 (o_shl 1 a3))), some (vI (o_add a3 1))]) (st' := []) (M1 := x3.2) rfl ?_
          refine Z_mask [true, true, true, true] (lo0 := [some (vR 0 21 0), some (vI a1), some (vI (o_or a2 (o_shl 1 a3))), some (vI (o_add a3 1))]) rfl ?_
          exact ih a1 (o_or a2 (o_shl 1 a3)) (o_add a3 1) x3.2 _ _ h
def f_X11_hangs (a1 : Int) (M : AM) : Option (Int × AM) := zlet (am_upd M 0 1 0) fun M1 => zlet (am_upd M1 0 0 0) fun M2 => (f_X11_isCoupleAt a1 M2).bind fun x3 => if ¬ x3.1 = 0 then ((f_X11_rung x3.2).bind fun x4 => (f_X11_has x4.1 a1 x4.2).bind fun x5 => if ¬ x5.1 = 0 then f_X11_hangs_46 zB a1 0 0 x5.2 else ((f_X11_refuse 9 x5.2).bind fun x6 => some (x6.1, x6.2))) else ((f_X11_refuse 2 x3.2).bind fun x7 => some (x7.1, x7.2))
theorem e_X11_hangs {Y : List (Nat × Nat)} (d : Nat) (a1 : Int) (M : AM) (x : Int) (N : AM) (h : f_X11_hangs a1 M = some (x, N)) : Ev Y (d + 5) m_X11_hangs 0 [some (vR 0 21 0), some (vI a1), none, none] [] M (some (vI x)) N := by
  unfold f_X11_hangs at h
  obtain ⟨M1, eM1, h⟩ := of_zlet h
  refine Z_blk k_X11_hangs 3 (pc' := 5) (lo' := [some (vR 0 21 0), some (vI a1), none, none]) (st' := []) (M1 := M1) (by rw [eM1]; rfl) ?_
  obtain ⟨M2, eM2, h⟩ := of_zlet h
  refine Z_blk k_X11_hangs 3 (pc' := 10) (lo' := [some (vR 0 21 0), some (vI a1), none, none]) (st' := []) (M1 := M2) (by rw [eM2]; rfl) ?_
  refine Z_blk k_X11_hangs 2 (pc' := 12) (lo' := [some (vR 0 21 0), some (vI a1), none, none]) (st' := [vI a1, vR 0 21 0]) (M1 := M2) rfl ?_
  obtain ⟨x3, hx3, h⟩ := Option.bind_eq_some_iff.mp h
  refine Z_callV8 k_X11_hangs k_X11_isCoupleAt rfl rfl (l_11_341) (ci := 11) rfl [vI a1] [] rfl rfl (Nat.le_of_ble_eq_true rfl) (Nat.le_of_ble_eq_true rfl) (e_X11_isCoupleAt (d + 3) a1 M2 _ _ hx3) ?_
  refine Z_if k_X11_hangs rfl 24 rfl (fun hc => ?_) (fun hc => ?_)
  · replace h := of_pos hc h
    refine Z_blk k_X11_hangs 1 (pc' := 25) (lo' := [some (vR 0 21 0), some (vI a1), none, none]) (st' := [vR 0 21 0]) (M1 := x3.2) rfl ?_
    obtain ⟨x4, hx4, h⟩ := Option.bind_eq_some_iff.mp h
    refine Z_callV8 k_X11_hangs k_X11_rung rfl rfl (l_11_332) (ci := 11) rfl [] [] rfl rfl (Nat.le_of_ble_eq_true rfl) (Nat.le_of_ble_eq_true rfl) (e_X11_rung (d + 1) x3.2 _ _ hx4) ?_
    refine Z_blk k_X11_hangs 1 (pc' := 29) (lo' := [some (vR 0 21 0), some (vI a1), none, none]) (st' := [vI a1, vI x4.1]) (M1 := x4.2) rfl ?_
    obtain ⟨x5, hx5, h⟩ := Option.bind_eq_some_iff.mp h
    refine Z_callS8 k_X11_hangs k_X11_has rfl rfl (l_11_108) [vI x4.1, vI a1] [] rfl rfl (Nat.le_of_ble_eq_true rfl) (Nat.le_of_ble_eq_true rfl) (e_X11_has (d + 4) x4.1 a1 x4.2 _ _ hx5) ?_
    refine Z_if k_X11_hangs rfl 42 rfl (fun hc => ?_) (fun hc => ?_)
    · replace h := of_pos hc h
      refine Z_blk k_X11_hangs 4 (pc' := 46) (lo' := [some (vR 0 21 0), some (vI a1), some (vI 0), some (vI 0)]) (st' := []) (M1 := x5.2) rfl ?_
      refine Z_mask [true, true, true, true] (lo0 := [some (vR 0 21 0), some (vI a1), some (vI 0), some (vI 0)]) rfl ?_
      exact e_X11_hangs_46 d zB a1 0 0 x5.2 _ _ h
    · replace h := of_neg hc h
      refine Z_blk k_X11_hangs 2 (pc' := 38) (lo' := [some (vR 0 21 0), some (vI a1), none, none]) (st' := [vI 9, vR 0 21 0]) (M1 := x5.2) rfl ?_
      obtain ⟨x6, hx6, h⟩ := Option.bind_eq_some_iff.mp h
      refine Z_callV8 k_X11_hangs k_X11_refuse rfl rfl (l_11_326) (ci := 11) rfl [vI 9] [] rfl rfl (Nat.le_of_ble_eq_true rfl) (Nat.le_of_ble_eq_true rfl) (e_X11_refuse (d + 4) 9 x5.2 _ _ hx6) ?_
      cases h
      exact Z_ret ⟨Or.inl rfl, _, rfl⟩ rfl
  · replace h := of_neg hc h
    refine Z_blk k_X11_hangs 2 (pc' := 20) (lo' := [some (vR 0 21 0), some (vI a1), none, none]) (st' := [vI 2, vR 0 21 0]) (M1 := x3.2) rfl ?_
    obtain ⟨x7, hx7, h⟩ := Option.bind_eq_some_iff.mp h
    refine Z_callV8 k_X11_hangs k_X11_refuse rfl rfl (l_11_326) (ci := 11) rfl [vI 2] [] rfl rfl (Nat.le_of_ble_eq_true rfl) (Nat.le_of_ble_eq_true rfl) (e_X11_refuse (d + 4) 2 x3.2 _ _ hx7) ?_
    cases h
    exact Z_ret ⟨Or.inl rfl, _, rfl⟩ rfl
def f_X11_vital_16 : Nat → Int → Int → Int → AM → Option (Int × AM)
  | 0, _, _, _, _ => none
  | n + 1, a1, a2, a3, M => if M 5 (Int.toNat 1) ≤ a3 then (if 0 ≤ a1 then some (a1, M) else ((f_X11_refuse 8 M).bind fun x1 => some (x1.1, x1.2))) else (if 0 ≤ o_add 37 a3 ∧ o_add 37 a3 < 1775 then (if M 5 (Int.toNat (o_add 37 a3)) = 0 then f_X11_vital_16 n a1 a2 (o_add a3 1) M else ((f_X11_lostBy a3 M).bind fun x3 => (f_X11_sizeOf x3.1 x3.2).bind fun x4 => if a2 < x4.1 then ((f_X11_lostBy a3 x4.2).bind fun x5 => (f_X11_sizeOf x5.1 x5.2).bind fun x6 => f_X11_vital_16 n a3 x6.1 (o_add a3 1) x6.2) else f_X11_vital_16 n a1 a2 (o_add a3 1) x4.2)) else none)
theorem e_X11_vital_16 {Y : List (Nat × Nat)} (d : Nat) : ∀ (n : Nat) (a1 : Int) (a2 : Int) (a3 : Int) (M : AM) (x : Int) (N : AM), f_X11_vital_16 n a1 a2 a3 M = some (x, N) → Ev Y (d + 5) m_X11_vital 16 [some (vR 0 21 0), some (vI a1), some (vI a2), some (vI a3)] [] M (some (vI x)) N := by
  intro n
  induction n with
  | zero => intro a1 a2 a3 M x N h; cases h
  | succ n ih =>
    intro a1 a2 a3 M x N h
    simp only [f_X11_vital_16] at h
    refine Z_blk k_X11_vital 4 (pc' := 22) (lo' := [some (vR 0 21 0), some (vI a1), some (vI a2), some (vI a3)]) (st' := [vI 1, vR 5 0 1775, vI a3]) (M1 := M) rfl ?_
    refine Z_one k_X11_vital rfl (pc' := 23) (lo' := [some (vR 0 21 0), some (vI a1), some (vI a2), some (vI a3)]) (st' := [vI (M 5 (Int.toNat 1)), vI a3]) (M1 := M) (rfl) ?_
    refine Z_icmp k_X11_vital rfl 70 rfl (fun hc => ?_) (fun hc => ?_)
    · replace h := of_pos hc h
      refine Z_blk k_X11_vital 1 (pc' := 71) (lo' := [some (vR 0 21 0), some (vI a1), some (vI a2), some (vI a3)]) (st' := [vI a1]) (M1 := M) rfl ?_
      refine Z_if k_X11_vital rfl 83 rfl (fun hc => ?_) (fun hc => ?_)
      · replace h := of_pos hc h
        refine Z_blk k_X11_vital 1 (pc' := 84) (lo' := [some (vR 0 21 0), some (vI a1), some (vI a2), some (vI a3)]) (st' := [vI a1]) (M1 := M) rfl ?_
        cases h
        exact Z_ret ⟨Or.inl rfl, _, rfl⟩ rfl
      · replace h := of_neg hc h
        refine Z_blk k_X11_vital 2 (pc' := 77) (lo' := [some (vR 0 21 0), some (vI a1), some (vI a2), some (vI a3)]) (st' := [vI 8, vR 0 21 0]) (M1 := M) rfl ?_
        obtain ⟨x1, hx1, h⟩ := Option.bind_eq_some_iff.mp h
        refine Z_callV8 k_X11_vital k_X11_refuse rfl rfl (l_11_326) (ci := 11) rfl [vI 8] [] rfl rfl (Nat.le_of_ble_eq_true rfl) (Nat.le_of_ble_eq_true rfl) (e_X11_refuse (d + 4) 8 M _ _ hx1) ?_
        refine Z_blk k_X11_vital 1 (pc' := 84) (lo' := [some (vR 0 21 0), some (vI a1), some (vI a2), some (vI a3)]) (st' := [vI x1.1]) (M1 := x1.2) rfl ?_
        cases h
        exact Z_ret ⟨Or.inl rfl, _, rfl⟩ rfl
    · replace h := of_neg hc h
      refine Z_blk k_X11_vital 5 (pc' := 34) (lo' := [some (vR 0 21 0), some (vI a1), some (vI a2), some (vI a3)]) (st' := [vI (o_add 37 a3), vR 5 0 1775]) (M1 := M) rfl ?_
      obtain ⟨hc2, h⟩ := of_grd h
      refine Z_one k_X11_vital rfl (pc' := 35) (lo' := [some (vR 0 21 0), some (vI a1), some (vI a2), some (vI a3)]) (st' := [vI (M 5 (Int.toNat (o_add 37 a3)))]) (M1 := M) (if_pos hc2) ?_
      refine Z_if k_X11_vital rfl 64 rfl (fun hc => ?_) (fun hc => ?_)
      · replace h := of_pos hc h
        refine Z_blk k_X11_vital 2 (pc' := 16) (lo' := [some (vR 0 21 0), some (vI a1), some (vI a2), some (vI (o_add a3 1))]) (st' := []) (M1 := M) rfl ?_
        refine Z_mask [true, true, true, true] (lo0 := [some (vR 0 21 0), some (vI a1), some (vI a2), some (vI (o_add a3 1))]) rfl ?_
        exact ih a1 a2 (o_add a3 1) M _ _ h
      · replace h := of_neg hc h
        refine Z_blk k_X11_vital 2 (pc' := 40) (lo' := [some (vR 0 21 0), some (vI a1), some (vI a2), some (vI a3)]) (st' := [vI a3, vR 0 21 0]) (M1 := M) rfl ?_
        obtain ⟨x3, hx3, h⟩ := Option.bind_eq_some_iff.mp h
        refine Z_callV8 k_X11_vital k_X11_lostBy rfl rfl (l_11_418) (ci := 11) rfl [vI a3] [] rfl rfl (Nat.le_of_ble_eq_true rfl) (Nat.le_of_ble_eq_true rfl) (e_X11_lostBy (d + 0) a3 M _ _ hx3) ?_
        obtain ⟨x4, hx4, h⟩ := Option.bind_eq_some_iff.mp h
        refine Z_callS8 k_X11_vital k_X11_sizeOf rfl rfl (l_11_403) [vI x3.1] [] rfl rfl (Nat.le_of_ble_eq_true rfl) (Nat.le_of_ble_eq_true rfl) (e_X11_sizeOf (d + 3) x3.1 x3.2 _ _ hx4) ?_
        refine Z_blk k_X11_vital 1 (pc' := 47) (lo' := [some (vR 0 21 0), some (vI a1), some (vI a2), some (vI a3)]) (st' := [vI a2, vI x4.1]) (M1 := x4.2) rfl ?_
        refine Z_icmp k_X11_vital rfl 53 rfl (fun hc => ?_) (fun hc => ?_)
        · replace h := of_pos hc h
          refine Z_blk k_X11_vital 2 (pc' := 55) (lo' := [some (vR 0 21 0), some (vI a1), some (vI a2), some (vI a3)]) (st' := [vI a3, vR 0 21 0]) (M1 := x4.2) rfl ?_
          obtain ⟨x5, hx5, h⟩ := Option.bind_eq_some_iff.mp h
          refine Z_callV8 k_X11_vital k_X11_lostBy rfl rfl (l_11_418) (ci := 11) rfl [vI a3] [] rfl rfl (Nat.le_of_ble_eq_true rfl) (Nat.le_of_ble_eq_true rfl) (e_X11_lostBy (d + 0) a3 x4.2 _ _ hx5) ?_
          obtain ⟨x6, hx6, h⟩ := Option.bind_eq_some_iff.mp h
          refine Z_callS8 k_X11_vital k_X11_sizeOf rfl rfl (l_11_403) [vI x5.1] [] rfl rfl (Nat.le_of_ble_eq_true rfl) (Nat.le_of_ble_eq_true rfl) (e_X11_sizeOf (d + 3) x5.1 x5.2 _ _ hx6) ?_
          refine Z_blk k_X11_vital 5 (pc' := 16) (lo' := [some (vR 0 21 0), some (vI a3), some (vI x6.1), some (vI (o_add a3 1))]) (st' := []) (M1 := x6.2) rfl ?_
          refine Z_mask [true, true, true, true] (lo0 := [some (vR 0 21 0), some (vI a3), some (vI x6.1), some (vI (o_add a3 1))]) rfl ?_
          exact ih a3 x6.1 (o_add a3 1) x6.2 _ _ h
        · replace h := of_neg hc h
          refine Z_blk k_X11_vital 3 (pc' := 16) (lo' := [some (vR 0 21 0), some (vI a1), some (vI a2), some (vI (o_add a3 1))]) (st' := []) (M1 := x4.2) rfl ?_
          refine Z_mask [true, true, true, true] (lo0 := [some (vR 0 21 0), some (vI a1), some (vI a2), some (vI (o_add a3 1))]) rfl ?_
          exact ih a1 a2 (o_add a3 1) x4.2 _ _ h
def f_X11_vital (M : AM) : Option (Int × AM) := zlet (am_upd M 0 1 0) fun M1 => zlet (am_upd M1 0 0 0) fun M2 => f_X11_vital_16 zB (-1) (-1) 0 M2
theorem e_X11_vital {Y : List (Nat × Nat)} (d : Nat) (M : AM) (x : Int) (N : AM) (h : f_X11_vital M = some (x, N)) : Ev Y (d + 5) m_X11_vital 0 [some (vR 0 21 0), none, none, none] [] M (some (vI x)) N := by
  unfold f_X11_vital at h
  obtain ⟨M1, eM1, h⟩ := of_zlet h
  refine Z_blk k_X11_vital 3 (pc' := 5) (lo' := [some (vR 0 21 0), none, none, none]) (st' := []) (M1 := M1) (by rw [eM1]; rfl) ?_
  obtain ⟨M2, eM2, h⟩ := of_zlet h
  refine Z_blk k_X11_vital 3 (pc' := 10) (lo' := [some (vR 0 21 0), none, none, none]) (st' := []) (M1 := M2) (by rw [eM2]; rfl) ?_
  refine Z_blk k_X11_vital 6 (pc' := 16) (lo' := [some (vR 0 21 0), some (vI (-1)), some (vI (-1)), some (vI 0)]) (st' := []) (M1 := M2) rfl ?_
  refine Z_mask [true, true, true, true] (lo0 := [some (vR 0 21 0), some (vI (-1)), some (vI (-1)), some (vI 0)]) rfl ?_
  exact e_X11_vital_16 d zB (-1) (-1) 0 M2 _ _ h
def f_X11_pulled_44 : Nat → Int → Int → Int → AM → Option (Int × AM)
  | 0, _, _, _, _ => none
  | n + 1, a1, a2, a3, M => if M 5 (Int.toNat 0) ≤ a3 then some (a2, M) else ((f_X11_heardIn a3 M).bind fun x1 => if ¬ x1.1 = a1 then f_X11_pulled_44 n a1 (o_or a2 0) (o_add a3 1) x1.2 else f_X11_pulled_44 n a1 (o_or a2 (o_shl 1 a3)) (o_add a3 1) x1.2)
theorem e_X11_pulled_44 {Y : List (Nat × Nat)} (d : Nat) : ∀ (n : Nat) (a1 : Int) (a2 : Int) (a3 : Int) (M : AM) (x : Int) (N : AM), f_X11_pulled_44 n a1 a2 a3 M = some (x, N) → Ev Y (d + 3) m_X11_pulled 44 [some (vR 0 21 0), some (vI a1), some (vI a2), some (vI a3)] [] M (some (vI x)) N := by
  intro n
  induction n with
  | zero => intro a1 a2 a3 M x N h; cases h
  | succ n ih =>
    intro a1 a2 a3 M x N h
    simp only [f_X11_pulled_44] at h
    refine Z_blk k_X11_pulled 4 (pc' := 50) (lo' := [some (vR 0 21 0), some (vI a1), some (vI a2), some (vI a3)]) (st' := [vI 0, vR 5 0 1775, vI a3]) (M1 := M) rfl ?_
    refine Z_one k_X11_pulled rfl (pc' := 51) (lo' := [some (vR 0 21 0), some (vI a1), some (vI a2), some (vI a3)]) (st' := [vI (M 5 (Int.toNat 0)), vI a3]) (M1 := M) (rfl) ?_
    refine Z_icmp k_X11_pulled rfl 79 rfl (fun hc => ?_) (fun hc => ?_)
    · replace h := of_pos hc h
      refine Z_blk k_X11_pulled 1 (pc' := 80) (lo' := [some (vR 0 21 0), some (vI a1), some (vI a2), some (vI a3)]) (st' := [vI a2]) (M1 := M) rfl ?_
      cases h
      exact Z_ret ⟨Or.inl rfl, _, rfl⟩ rfl
    · replace h := of_neg hc h
      refine Z_blk k_X11_pulled 3 (pc' := 57) (lo' := [some (vR 0 21 0), some (vI a1), some (vI a2), some (vI a3)]) (st' := [vI a3, vR 0 21 0, vI a2]) (M1 := M) rfl ?_
      obtain ⟨x1, hx1, h⟩ := Option.bind_eq_some_iff.mp h
      refine Z_callV8 k_X11_pulled k_X11_heardIn rfl rfl (l_11_382) (ci := 11) rfl [vI a3] [vI a2] rfl rfl (Nat.le_of_ble_eq_true rfl) (Nat.le_of_ble_eq_true rfl) (e_X11_heardIn (d + 0) a3 M _ _ hx1) ?_
      refine Z_blk k_X11_pulled 1 (pc' := 61) (lo' := [some (vR 0 21 0), some (vI a1), some (vI a2), some (vI a3)]) (st' := [vI a1, vI x1.1, vI a2]) (M1 := x1.2) rfl ?_
      refine Z_icmp k_X11_pulled rfl 70 rfl (fun hc => ?_) (fun hc => ?_)
      · replace h := of_pos hc h
        refine Z_blk k_X11_pulled 5 (pc' := 44) (lo' := [some (vR 0 21 0), some (vI a1), some (vI (o_or a2 0)), some (vI (o_add a3 1))]) (st' := []) (M1 := x1.2) rfl ?_
        refine Z_mask [true, true, true, true] (lo0 := [some (vR 0 21 0), some (vI a1), some (vI (o_or a2 0)), some (vI (o_add a3 1))]) rfl ?_
        exact ih a1 (o_or a2 0) (o_add a3 1) x1.2 _ _ h
      · replace h := of_neg hc h
        refine Z_blk k_X11_pulled 8 (pc' := 44) (lo' := [some (vR 0 21 0), some (vI a1), some (vI (o_or a2 (o_shl 1 a3))), some (vI (o_add a3 1))]) (st' := []) (M1 := x1.2) rfl ?_
        refine Z_mask [true, true, true, true] (lo0 := [some (vR 0 21 0), some (vI a1), some (vI (o_or a2 (o_shl 1 a3))), some (vI (o_add a3 1))]) rfl ?_
        exact ih a1 (o_or a2 (o_shl 1 a3)) (o_add a3 1) x1.2 _ _ h
def f_X11_pulled (a1 : Int) (M : AM) : Option (Int × AM) := zlet (am_upd M 0 1 0) fun M1 => zlet (am_upd M1 0 0 0) fun M2 => (f_X11_isIn a1 0 (o_sub (o_shl 1 (M2 5 (Int.toNat 0))) 1) M2).bind fun x3 => if ¬ x3.1 = 0 then ((f_X11_laysFar x3.2).bind fun x4 => f_X11_pulled_44 zB a1 0 0 x4) else ((f_X11_refuse 5 x3.2).bind fun x5 => some (x5.1, x5.2))
theorem e_X11_pulled {Y : List (Nat × Nat)} (d : Nat) (a1 : Int) (M : AM) (x : Int) (N : AM) (h : f_X11_pulled a1 M = some (x, N)) : Ev Y (d + 3) m_X11_pulled 0 [some (vR 0 21 0), some (vI a1), none, none] [] M (some (vI x)) N := by
  unfold f_X11_pulled at h
  obtain ⟨M1, eM1, h⟩ := of_zlet h
  refine Z_blk k_X11_pulled 3 (pc' := 5) (lo' := [some (vR 0 21 0), some (vI a1), none, none]) (st' := []) (M1 := M1) (by rw [eM1]; rfl) ?_
  obtain ⟨M2, eM2, h⟩ := of_zlet h
  refine Z_blk k_X11_pulled 3 (pc' := 10) (lo' := [some (vR 0 21 0), some (vI a1), none, none]) (st' := []) (M1 := M2) (by rw [eM2]; rfl) ?_
  refine Z_blk k_X11_pulled 7 (pc' := 19) (lo' := [some (vR 0 21 0), some (vI a1), none, none]) (st' := [vI 0, vR 5 0 1775, vI 1, vL 0, vL a1]) (M1 := M2) rfl ?_
  refine Z_one k_X11_pulled rfl (pc' := 20) (lo' := [some (vR 0 21 0), some (vI a1), none, none]) (st' := [vI (M2 5 (Int.toNat 0)), vI 1, vL 0, vL a1]) (M1 := M2) (rfl) ?_
  refine Z_blk k_X11_pulled 4 (pc' := 24) (lo' := [some (vR 0 21 0), some (vI a1), none, none]) (st' := [vL (o_sub (o_shl 1 (M2 5 (Int.toNat 0))) 1), vL 0, vL a1]) (M1 := M2) rfl ?_
  obtain ⟨x3, hx3, h⟩ := Option.bind_eq_some_iff.mp h
  refine Z_callS8 k_X11_pulled k_X11_isIn rfl rfl (l_11_104) [vL a1, vL 0, vL (o_sub (o_shl 1 (M2 5 (Int.toNat 0))) 1)] [] rfl rfl (Nat.le_of_ble_eq_true rfl) (Nat.le_of_ble_eq_true rfl) (e_X11_isIn (d + 2) a1 0 (o_sub (o_shl 1 (M2 5 (Int.toNat 0))) 1) M2 _ _ hx3) ?_
  refine Z_if k_X11_pulled rfl 36 rfl (fun hc => ?_) (fun hc => ?_)
  · replace h := of_pos hc h
    refine Z_blk k_X11_pulled 1 (pc' := 37) (lo' := [some (vR 0 21 0), some (vI a1), none, none]) (st' := [vR 0 21 0]) (M1 := x3.2) rfl ?_
    obtain ⟨x4, hx4, h⟩ := Option.bind_eq_some_iff.mp h
    refine Z_callV8 k_X11_pulled k_X11_laysFar rfl rfl (l_11_318) (ci := 11) rfl [] [] rfl rfl (Nat.le_of_ble_eq_true rfl) (Nat.le_of_ble_eq_true rfl) (e_X11_laysFar (d + 2) x3.2 _ hx4) ?_
    refine Z_blk k_X11_pulled 4 (pc' := 44) (lo' := [some (vR 0 21 0), some (vI a1), some (vI 0), some (vI 0)]) (st' := []) (M1 := x4) rfl ?_
    refine Z_mask [true, true, true, true] (lo0 := [some (vR 0 21 0), some (vI a1), some (vI 0), some (vI 0)]) rfl ?_
    exact e_X11_pulled_44 d zB a1 0 0 x4 _ _ h
  · replace h := of_neg hc h
    refine Z_blk k_X11_pulled 2 (pc' := 32) (lo' := [some (vR 0 21 0), some (vI a1), none, none]) (st' := [vI 5, vR 0 21 0]) (M1 := x3.2) rfl ?_
    obtain ⟨x5, hx5, h⟩ := Option.bind_eq_some_iff.mp h
    refine Z_callV8 k_X11_pulled k_X11_refuse rfl rfl (l_11_326) (ci := 11) rfl [vI 5] [] rfl rfl (Nat.le_of_ble_eq_true rfl) (Nat.le_of_ble_eq_true rfl) (e_X11_refuse (d + 2) 5 x3.2 _ _ hx5) ?_
    cases h
    exact Z_ret ⟨Or.inl rfl, _, rfl⟩ rfl
def f_X11_crossed_81 (k_32 : Int → Int → Int → AM → Option (Int × AM)) (a1 : Int) (a2 : Int) (a3 : Int) (s0 : Int) (M : AM) : Option (Int × AM) := if s0 < 0 then k_32 a1 (o_or a2 0) (o_add a3 1) M else (if s0 = a3 then k_32 a1 (o_or a2 0) (o_add a3 1) M else k_32 a1 (o_or a2 (o_shl 1 a3)) (o_add a3 1) M)
theorem e_X11_crossed_81 {Y : List (Nat × Nat)} (d : Nat) (k_32 : Int → Int → Int → AM → Option (Int × AM)) (hk_32 : ∀ (a1 : Int) (a2 : Int) (a3 : Int) (M : AM) (x : Int) (N : AM), k_32 a1 a2 a3 M = some (x, N) → Ev Y (d + 3) m_X11_crossed 32 [some (vR 0 21 0), some (vI a1), some (vI a2), some (vI a3), none] [] M (some (vI x)) N) (a1 : Int) (a2 : Int) (a3 : Int) (s0 : Int) (M : AM) (x : Int) (N : AM) (h : f_X11_crossed_81 k_32 a1 a2 a3 s0 M = some (x, N)) : Ev Y (d + 3) m_X11_crossed 81 [some (vR 0 21 0), some (vI a1), some (vI a2), some (vI a3), none] [vI s0] M (some (vI x)) N := by
  unfold f_X11_crossed_81 at h
  refine Z_blk k_X11_crossed 3 (pc' := 86) (lo' := [some (vR 0 21 0), some (vI a1), some (vI a2), some (vI a3), some (vI s0)]) (st' := [vI s0, vI a2]) (M1 := M) rfl ?_
  refine Z_if k_X11_crossed rfl 101 rfl (fun hc => ?_) (fun hc => ?_)
  · replace h := of_pos hc h
    refine Z_blk k_X11_crossed 5 (pc' := 32) (lo' := [some (vR 0 21 0), some (vI a1), some (vI (o_or a2 0)), some (vI (o_add a3 1)), some (vI s0)]) (st' := []) (M1 := M) rfl ?_
    refine Z_mask [true, true, true, true, false] (lo0 := [some (vR 0 21 0), some (vI a1), some (vI (o_or a2 0)), some (vI (o_add a3 1)), none]) rfl ?_
    exact hk_32 a1 (o_or a2 0) (o_add a3 1) M _ _ h
  · replace h := of_neg hc h
    refine Z_blk k_X11_crossed 2 (pc' := 92) (lo' := [some (vR 0 21 0), some (vI a1), some (vI a2), some (vI a3), some (vI s0)]) (st' := [vI a3, vI s0, vI a2]) (M1 := M) rfl ?_
    refine Z_icmp k_X11_crossed rfl 101 rfl (fun hc => ?_) (fun hc => ?_)
    · replace h := of_pos hc h
      refine Z_blk k_X11_crossed 5 (pc' := 32) (lo' := [some (vR 0 21 0), some (vI a1), some (vI (o_or a2 0)), some (vI (o_add a3 1)), some (vI s0)]) (st' := []) (M1 := M) rfl ?_
      refine Z_mask [true, true, true, true, false] (lo0 := [some (vR 0 21 0), some (vI a1), some (vI (o_or a2 0)), some (vI (o_add a3 1)), none]) rfl ?_
      exact hk_32 a1 (o_or a2 0) (o_add a3 1) M _ _ h
    · replace h := of_neg hc h
      refine Z_blk k_X11_crossed 8 (pc' := 32) (lo' := [some (vR 0 21 0), some (vI a1), some (vI (o_or a2 (o_shl 1 a3))), some (vI (o_add a3 1)), some (vI s0)]) (st' := []) (M1 := M) rfl ?_
      refine Z_mask [true, true, true, true, false] (lo0 := [some (vR 0 21 0), some (vI a1), some (vI (o_or a2 (o_shl 1 a3))), some (vI (o_add a3 1)), none]) rfl ?_
      exact hk_32 a1 (o_or a2 (o_shl 1 a3)) (o_add a3 1) M _ _ h
def f_X11_crossed_32 : Nat → Int → Int → Int → AM → Option (Int × AM)
  | 0, _, _, _, _ => none
  | n + 1, a1, a2, a3, M => if M 5 (Int.toNat 2) ≤ a3 then some (a2, M) else (if 0 ≤ o_add 65 a3 ∧ o_add 65 a3 < 1775 then (if ¬ M 5 (Int.toNat (o_add 65 a3)) = 1 then f_X11_crossed_81 (f_X11_crossed_32 n) a1 a2 a3 (-1) M else (if 0 ≤ o_add 53 a3 ∧ o_add 53 a3 < 1775 then ((f_X11_isHeard a1 (M 5 (Int.toNat (o_add 53 a3))) M).bind fun x3 => if x3.1 = 0 then f_X11_crossed_81 (f_X11_crossed_32 n) a1 a2 a3 (-1) x3.2 else ((f_X11_answerOf a3 x3.2).bind fun x4 => f_X11_crossed_81 (f_X11_crossed_32 n) a1 a2 a3 x4.1 x4.2)) else none)) else none)
theorem e_X11_crossed_32 {Y : List (Nat × Nat)} (d : Nat) : ∀ (n : Nat) (a1 : Int) (a2 : Int) (a3 : Int) (M : AM) (x : Int) (N : AM), f_X11_crossed_32 n a1 a2 a3 M = some (x, N) → Ev Y (d + 3) m_X11_crossed 32 [some (vR 0 21 0), some (vI a1), some (vI a2), some (vI a3), none] [] M (some (vI x)) N := by
  intro n
  induction n with
  | zero => intro a1 a2 a3 M x N h; cases h
  | succ n ih =>
    intro a1 a2 a3 M x N h
    simp only [f_X11_crossed_32] at h
    refine Z_blk k_X11_crossed 4 (pc' := 38) (lo' := [some (vR 0 21 0), some (vI a1), some (vI a2), some (vI a3), none]) (st' := [vI 2, vR 5 0 1775, vI a3]) (M1 := M) rfl ?_
    refine Z_one k_X11_crossed rfl (pc' := 39) (lo' := [some (vR 0 21 0), some (vI a1), some (vI a2), some (vI a3), none]) (st' := [vI (M 5 (Int.toNat 2)), vI a3]) (M1 := M) (rfl) ?_
    refine Z_icmp k_X11_crossed rfl 110 rfl (fun hc => ?_) (fun hc => ?_)
    · replace h := of_pos hc h
      refine Z_blk k_X11_crossed 1 (pc' := 111) (lo' := [some (vR 0 21 0), some (vI a1), some (vI a2), some (vI a3), none]) (st' := [vI a2]) (M1 := M) rfl ?_
      cases h
      exact Z_ret ⟨Or.inl rfl, _, rfl⟩ rfl
    · replace h := of_neg hc h
      refine Z_blk k_X11_crossed 5 (pc' := 50) (lo' := [some (vR 0 21 0), some (vI a1), some (vI a2), some (vI a3), none]) (st' := [vI (o_add 65 a3), vR 5 0 1775]) (M1 := M) rfl ?_
      obtain ⟨hc1, h⟩ := of_grd h
      refine Z_one k_X11_crossed rfl (pc' := 51) (lo' := [some (vR 0 21 0), some (vI a1), some (vI a2), some (vI a3), none]) (st' := [vI (M 5 (Int.toNat (o_add 65 a3)))]) (M1 := M) (if_pos hc1) ?_
      refine Z_blk k_X11_crossed 1 (pc' := 52) (lo' := [some (vR 0 21 0), some (vI a1), some (vI a2), some (vI a3), none]) (st' := [vI 1, vI (M 5 (Int.toNat (o_add 65 a3)))]) (M1 := M) rfl ?_
      refine Z_icmp k_X11_crossed rfl 80 rfl (fun hc => ?_) (fun hc => ?_)
      · replace h := of_pos hc h
        refine Z_blk k_X11_crossed 1 (pc' := 81) (lo' := [some (vR 0 21 0), some (vI a1), some (vI a2), some (vI a3), none]) (st' := [vI (-1)]) (M1 := M) rfl ?_
        refine Z_mask [true, true, true, true, false] (lo0 := [some (vR 0 21 0), some (vI a1), some (vI a2), some (vI a3), none]) rfl ?_
        exact e_X11_crossed_81 d (f_X11_crossed_32 n) ih a1 a2 a3 (-1) M _ _ h
      · replace h := of_neg hc h
        refine Z_blk k_X11_crossed 7 (pc' := 65) (lo' := [some (vR 0 21 0), some (vI a1), some (vI a2), some (vI a3), none]) (st' := [vI (o_add 53 a3), vR 5 0 1775, vI a1, vR 0 21 0]) (M1 := M) rfl ?_
        obtain ⟨hc2, h⟩ := of_grd h
        refine Z_one k_X11_crossed rfl (pc' := 66) (lo' := [some (vR 0 21 0), some (vI a1), some (vI a2), some (vI a3), none]) (st' := [vI (M 5 (Int.toNat (o_add 53 a3))), vI a1, vR 0 21 0]) (M1 := M) (if_pos hc2) ?_
        obtain ⟨x3, hx3, h⟩ := Option.bind_eq_some_iff.mp h
        refine Z_callV8 k_X11_crossed k_X11_isHeard rfl rfl (l_11_315) (ci := 11) rfl [vI a1, vI (M 5 (Int.toNat (o_add 53 a3)))] [] rfl rfl (Nat.le_of_ble_eq_true rfl) (Nat.le_of_ble_eq_true rfl) (e_X11_isHeard (d + 1) a1 (M 5 (Int.toNat (o_add 53 a3))) M _ _ hx3) ?_
        refine Z_if k_X11_crossed rfl 80 rfl (fun hc => ?_) (fun hc => ?_)
        · replace h := of_pos hc h
          refine Z_blk k_X11_crossed 1 (pc' := 81) (lo' := [some (vR 0 21 0), some (vI a1), some (vI a2), some (vI a3), none]) (st' := [vI (-1)]) (M1 := x3.2) rfl ?_
          refine Z_mask [true, true, true, true, false] (lo0 := [some (vR 0 21 0), some (vI a1), some (vI a2), some (vI a3), none]) rfl ?_
          exact e_X11_crossed_81 d (f_X11_crossed_32 n) ih a1 a2 a3 (-1) x3.2 _ _ h
        · replace h := of_neg hc h
          refine Z_blk k_X11_crossed 2 (pc' := 74) (lo' := [some (vR 0 21 0), some (vI a1), some (vI a2), some (vI a3), none]) (st' := [vI a3, vR 0 21 0]) (M1 := x3.2) rfl ?_
          obtain ⟨x4, hx4, h⟩ := Option.bind_eq_some_iff.mp h
          refine Z_callV8 k_X11_crossed k_X11_answerOf rfl rfl (l_11_353) (ci := 11) rfl [vI a3] [] rfl rfl (Nat.le_of_ble_eq_true rfl) (Nat.le_of_ble_eq_true rfl) (e_X11_answerOf (d + 0) a3 x3.2 _ _ hx4) ?_
          refine Z_blk k_X11_crossed 1 (pc' := 81) (lo' := [some (vR 0 21 0), some (vI a1), some (vI a2), some (vI a3), none]) (st' := [vI x4.1]) (M1 := x4.2) rfl ?_
          refine Z_mask [true, true, true, true, false] (lo0 := [some (vR 0 21 0), some (vI a1), some (vI a2), some (vI a3), none]) rfl ?_
          exact e_X11_crossed_81 d (f_X11_crossed_32 n) ih a1 a2 a3 x4.1 x4.2 _ _ h
def f_X11_crossed (a1 : Int) (M : AM) : Option (Int × AM) := zlet (am_upd M 0 1 0) fun M1 => zlet (am_upd M1 0 0 0) fun M2 => (f_X11_isRoomAt a1 M2).bind fun x3 => if ¬ x3.1 = 0 then ((f_X11_laysFar x3.2).bind fun x4 => f_X11_crossed_32 zB a1 0 0 x4) else ((f_X11_refuse 2 x3.2).bind fun x5 => some (x5.1, x5.2))
theorem e_X11_crossed {Y : List (Nat × Nat)} (d : Nat) (a1 : Int) (M : AM) (x : Int) (N : AM) (h : f_X11_crossed a1 M = some (x, N)) : Ev Y (d + 3) m_X11_crossed 0 [some (vR 0 21 0), some (vI a1), none, none, none] [] M (some (vI x)) N := by
  unfold f_X11_crossed at h
  obtain ⟨M1, eM1, h⟩ := of_zlet h
  refine Z_blk k_X11_crossed 3 (pc' := 5) (lo' := [some (vR 0 21 0), some (vI a1), none, none, none]) (st' := []) (M1 := M1) (by rw [eM1]; rfl) ?_
  obtain ⟨M2, eM2, h⟩ := of_zlet h
  refine Z_blk k_X11_crossed 3 (pc' := 10) (lo' := [some (vR 0 21 0), some (vI a1), none, none, none]) (st' := []) (M1 := M2) (by rw [eM2]; rfl) ?_
  refine Z_blk k_X11_crossed 2 (pc' := 12) (lo' := [some (vR 0 21 0), some (vI a1), none, none, none]) (st' := [vI a1, vR 0 21 0]) (M1 := M2) rfl ?_
  obtain ⟨x3, hx3, h⟩ := Option.bind_eq_some_iff.mp h
  refine Z_callV8 k_X11_crossed k_X11_isRoomAt rfl rfl (l_11_375) (ci := 11) rfl [vI a1] [] rfl rfl (Nat.le_of_ble_eq_true rfl) (Nat.le_of_ble_eq_true rfl) (e_X11_isRoomAt (d + 1) a1 M2 _ _ hx3) ?_
  refine Z_if k_X11_crossed rfl 24 rfl (fun hc => ?_) (fun hc => ?_)
  · replace h := of_pos hc h
    refine Z_blk k_X11_crossed 1 (pc' := 25) (lo' := [some (vR 0 21 0), some (vI a1), none, none, none]) (st' := [vR 0 21 0]) (M1 := x3.2) rfl ?_
    obtain ⟨x4, hx4, h⟩ := Option.bind_eq_some_iff.mp h
    refine Z_callV8 k_X11_crossed k_X11_laysFar rfl rfl (l_11_318) (ci := 11) rfl [] [] rfl rfl (Nat.le_of_ble_eq_true rfl) (Nat.le_of_ble_eq_true rfl) (e_X11_laysFar (d + 2) x3.2 _ hx4) ?_
    refine Z_blk k_X11_crossed 4 (pc' := 32) (lo' := [some (vR 0 21 0), some (vI a1), some (vI 0), some (vI 0), none]) (st' := []) (M1 := x4) rfl ?_
    refine Z_mask [true, true, true, true, false] (lo0 := [some (vR 0 21 0), some (vI a1), some (vI 0), some (vI 0), none]) rfl ?_
    exact e_X11_crossed_32 d zB a1 0 0 x4 _ _ h
  · replace h := of_neg hc h
    refine Z_blk k_X11_crossed 2 (pc' := 20) (lo' := [some (vR 0 21 0), some (vI a1), none, none, none]) (st' := [vI 2, vR 0 21 0]) (M1 := x3.2) rfl ?_
    obtain ⟨x5, hx5, h⟩ := Option.bind_eq_some_iff.mp h
    refine Z_callV8 k_X11_crossed k_X11_refuse rfl rfl (l_11_326) (ci := 11) rfl [vI 2] [] rfl rfl (Nat.le_of_ble_eq_true rfl) (Nat.le_of_ble_eq_true rfl) (e_X11_refuse (d + 2) 2 x3.2 _ _ hx5) ?_
    cases h
    exact Z_ret ⟨Or.inl rfl, _, rfl⟩ rfl
def f_X11_nextAsked_4 : Nat → Int → Int → Int → AM → Option (Int × AM)
  | 0, _, _, _, _ => none
  | n + 1, a1, a2, a3, M => if M 5 (Int.toNat 2) ≤ a3 then some (a2, M) else (if 0 ≤ a1 ∧ a1 < 6 then ((f_X11_has (M 13 (Int.toNat a1)) a3 M).bind fun x2 => if ¬ x2.1 = 0 then f_X11_nextAsked_4 n a1 a2 (o_add a3 1) x2.2 else (if 0 ≤ o_add 47 a1 ∧ o_add 47 a1 < 1775 then (if 0 ≤ o_add 53 a3 ∧ o_add 53 a3 < 1775 then ((f_X11_isHeard (x2.2 5 (Int.toNat (o_add 47 a1))) (x2.2 5 (Int.toNat (o_add 53 a3))) x2.2).bind fun x5 => if ¬ x5.1 = 0 then (if a2 < 0 then f_X11_nextAsked_4 n a1 a3 (o_add a3 1) x5.2 else ((f_X11_farOf (x5.2 5 (Int.toNat (o_add 47 a1))) (x5.2 5 (Int.toNat (o_add 53 a3))) x5.2).bind fun x6 => if 0 ≤ o_add 53 a2 ∧ o_add 53 a2 < 1775 then ((f_X11_farOf (x6.2 5 (Int.toNat (o_add 47 a1))) (x6.2 5 (Int.toNat (o_add 53 a2))) x6.2).bind fun x8 => if x8.1 ≤ x6.1 then f_X11_nextAsked_4 n a1 a2 (o_add a3 1) x8.2 else f_X11_nextAsked_4 n a1 a3 (o_add a3 1) x8.2) else none)) else f_X11_nextAsked_4 n a1 a2 (o_add a3 1) x5.2) else none) else none)) else none)
theorem e_X11_nextAsked_4 {Y : List (Nat × Nat)} (d : Nat) : ∀ (n : Nat) (a1 : Int) (a2 : Int) (a3 : Int) (M : AM) (x : Int) (N : AM), f_X11_nextAsked_4 n a1 a2 a3 M = some (x, N) → Ev Y (d + 2) m_X11_nextAsked 4 [some (vR 0 21 0), some (vI a1), some (vI a2), some (vI a3)] [] M (some (vI x)) N := by
  intro n
  induction n with
  | zero => intro a1 a2 a3 M x N h; cases h
  | succ n ih =>
    intro a1 a2 a3 M x N h
    simp only [f_X11_nextAsked_4] at h
    refine Z_blk k_X11_nextAsked 4 (pc' := 10) (lo' := [some (vR 0 21 0), some (vI a1), some (vI a2), some (vI a3)]) (st' := [vI 2, vR 5 0 1775, vI a3]) (M1 := M) rfl ?_
    refine Z_one k_X11_nextAsked rfl (pc' := 11) (lo' := [some (vR 0 21 0), some (vI a1), some (vI a2), some (vI a3)]) (st' := [vI (M 5 (Int.toNat 2)), vI a3]) (M1 := M) (rfl) ?_
    refine Z_icmp k_X11_nextAsked rfl 114 rfl (fun hc => ?_) (fun hc => ?_)
    · replace h := of_pos hc h
      refine Z_blk k_X11_nextAsked 1 (pc' := 115) (lo' := [some (vR 0 21 0), some (vI a1), some (vI a2), some (vI a3)]) (st' := [vI a2]) (M1 := M) rfl ?_
      cases h
      exact Z_ret ⟨Or.inl rfl, _, rfl⟩ rfl
    · replace h := of_neg hc h
      refine Z_blk k_X11_nextAsked 3 (pc' := 19) (lo' := [some (vR 0 21 0), some (vI a1), some (vI a2), some (vI a3)]) (st' := [vI a1, vR 13 0 6]) (M1 := M) rfl ?_
      obtain ⟨hc1, h⟩ := of_grd h
      refine Z_one k_X11_nextAsked rfl (pc' := 20) (lo' := [some (vR 0 21 0), some (vI a1), some (vI a2), some (vI a3)]) (st' := [vI (M 13 (Int.toNat a1))]) (M1 := M) (if_pos hc1) ?_
      refine Z_blk k_X11_nextAsked 1 (pc' := 21) (lo' := [some (vR 0 21 0), some (vI a1), some (vI a2), some (vI a3)]) (st' := [vI a3, vI (M 13 (Int.toNat a1))]) (M1 := M) rfl ?_
      obtain ⟨x2, hx2, h⟩ := Option.bind_eq_some_iff.mp h
      refine Z_callS8 k_X11_nextAsked k_X11_has rfl rfl (l_11_108) [vI (M 13 (Int.toNat a1)), vI a3] [] rfl rfl (Nat.le_of_ble_eq_true rfl) (Nat.le_of_ble_eq_true rfl) (e_X11_has (d + 1) (M 13 (Int.toNat a1)) a3 M _ _ hx2) ?_
      refine Z_if k_X11_nextAsked rfl 108 rfl (fun hc => ?_) (fun hc => ?_)
      · replace h := of_pos hc h
        refine Z_blk k_X11_nextAsked 2 (pc' := 4) (lo' := [some (vR 0 21 0), some (vI a1), some (vI a2), some (vI (o_add a3 1))]) (st' := []) (M1 := x2.2) rfl ?_
        refine Z_mask [true, true, true, true] (lo0 := [some (vR 0 21 0), some (vI a1), some (vI a2), some (vI (o_add a3 1))]) rfl ?_
        exact ih a1 a2 (o_add a3 1) x2.2 _ _ h
      · replace h := of_neg hc h
        refine Z_blk k_X11_nextAsked 6 (pc' := 36) (lo' := [some (vR 0 21 0), some (vI a1), some (vI a2), some (vI a3)]) (st' := [vI (o_add 47 a1), vR 5 0 1775, vR 0 21 0]) (M1 := x2.2) rfl ?_
        obtain ⟨hc3, h⟩ := of_grd h
        refine Z_one k_X11_nextAsked rfl (pc' := 37) (lo' := [some (vR 0 21 0), some (vI a1), some (vI a2), some (vI a3)]) (st' := [vI (x2.2 5 (Int.toNat (o_add 47 a1))), vR 0 21 0]) (M1 := x2.2) (if_pos hc3) ?_
        refine Z_blk k_X11_nextAsked 5 (pc' := 45) (lo' := [some (vR 0 21 0), some (vI a1), some (vI a2), some (vI a3)]) (st' := [vI (o_add 53 a3), vR 5 0 1775, vI (x2.2 5 (Int.toNat (o_add 47 a1))), vR 0 21 0]) (M1 := x2.2) rfl ?_
        obtain ⟨hc4, h⟩ := of_grd h
        refine Z_one k_X11_nextAsked rfl (pc' := 46) (lo' := [some (vR 0 21 0), some (vI a1), some (vI a2), some (vI a3)]) (st' := [vI (x2.2 5 (Int.toNat (o_add 53 a3))), vI (x2.2 5 (Int.toNat (o_add 47 a1))), vR 0 21 0]) (M1 := x2.2) (if_pos hc4) ?_
        obtain ⟨x5, hx5, h⟩ := Option.bind_eq_some_iff.mp h
        refine Z_callV8 k_X11_nextAsked k_X11_isHeard rfl rfl (l_11_315) (ci := 11) rfl [vI (x2.2 5 (Int.toNat (o_add 47 a1))), vI (x2.2 5 (Int.toNat (o_add 53 a3)))] [] rfl rfl (Nat.le_of_ble_eq_true rfl) (Nat.le_of_ble_eq_true rfl) (e_X11_isHeard (d + 0) (x2.2 5 (Int.toNat (o_add 47 a1))) (x2.2 5 (Int.toNat (o_add 53 a3))) x2.2 _ _ hx5) ?_
        refine Z_if k_X11_nextAsked rfl 55 rfl (fun hc => ?_) (fun hc => ?_)
        · replace h := of_pos hc h
          refine Z_blk k_X11_nextAsked 1 (pc' := 56) (lo' := [some (vR 0 21 0), some (vI a1), some (vI a2), some (vI a3)]) (st' := [vI a2]) (M1 := x5.2) rfl ?_
          refine Z_if k_X11_nextAsked rfl 106 rfl (fun hc => ?_) (fun hc => ?_)
          · replace h := of_pos hc h
            refine Z_blk k_X11_nextAsked 4 (pc' := 4) (lo' := [some (vR 0 21 0), some (vI a1), some (vI a3), some (vI (o_add a3 1))]) (st' := []) (M1 := x5.2) rfl ?_
            refine Z_mask [true, true, true, true] (lo0 := [some (vR 0 21 0), some (vI a1), some (vI a3), some (vI (o_add a3 1))]) rfl ?_
            exact ih a1 a3 (o_add a3 1) x5.2 _ _ h
          · replace h := of_neg hc h
            refine Z_blk k_X11_nextAsked 6 (pc' := 68) (lo' := [some (vR 0 21 0), some (vI a1), some (vI a2), some (vI a3)]) (st' := [vI (o_add 47 a1), vR 5 0 1775, vR 0 21 0]) (M1 := x5.2) rfl ?_
            refine Z_one k_X11_nextAsked rfl (pc' := 69) (lo' := [some (vR 0 21 0), some (vI a1), some (vI a2), some (vI a3)]) (st' := [vI (x5.2 5 (Int.toNat (o_add 47 a1))), vR 0 21 0]) (M1 := x5.2) (if_pos hc3) ?_
            refine Z_blk k_X11_nextAsked 5 (pc' := 77) (lo' := [some (vR 0 21 0), some (vI a1), some (vI a2), some (vI a3)]) (st' := [vI (o_add 53 a3), vR 5 0 1775, vI (x5.2 5 (Int.toNat (o_add 47 a1))), vR 0 21 0]) (M1 := x5.2) rfl ?_
            refine Z_one k_X11_nextAsked rfl (pc' := 78) (lo' := [some (vR 0 21 0), some (vI a1), some (vI a2), some (vI a3)]) (st' := [vI (x5.2 5 (Int.toNat (o_add 53 a3))), vI (x5.2 5 (Int.toNat (o_add 47 a1))), vR 0 21 0]) (M1 := x5.2) (if_pos hc4) ?_
            obtain ⟨x6, hx6, h⟩ := Option.bind_eq_some_iff.mp h
            refine Z_callV8 k_X11_nextAsked k_X11_farOf rfl rfl (l_11_312) (ci := 11) rfl [vI (x5.2 5 (Int.toNat (o_add 47 a1))), vI (x5.2 5 (Int.toNat (o_add 53 a3)))] [] rfl rfl (Nat.le_of_ble_eq_true rfl) (Nat.le_of_ble_eq_true rfl) (e_X11_farOf (d + 1) (x5.2 5 (Int.toNat (o_add 47 a1))) (x5.2 5 (Int.toNat (o_add 53 a3))) x5.2 _ _ hx6) ?_
            refine Z_blk k_X11_nextAsked 6 (pc' := 90) (lo' := [some (vR 0 21 0), some (vI a1), some (vI a2), some (vI a3)]) (st' := [vI (o_add 47 a1), vR 5 0 1775, vR 0 21 0, vI x6.1]) (M1 := x6.2) rfl ?_
            refine Z_one k_X11_nextAsked rfl (pc' := 91) (lo' := [some (vR 0 21 0), some (vI a1), some (vI a2), some (vI a3)]) (st' := [vI (x6.2 5 (Int.toNat (o_add 47 a1))), vR 0 21 0, vI x6.1]) (M1 := x6.2) (if_pos hc3) ?_
            refine Z_blk k_X11_nextAsked 5 (pc' := 99) (lo' := [some (vR 0 21 0), some (vI a1), some (vI a2), some (vI a3)]) (st' := [vI (o_add 53 a2), vR 5 0 1775, vI (x6.2 5 (Int.toNat (o_add 47 a1))), vR 0 21 0, vI x6.1]) (M1 := x6.2) rfl ?_
            obtain ⟨hc7, h⟩ := of_grd h
            refine Z_one k_X11_nextAsked rfl (pc' := 100) (lo' := [some (vR 0 21 0), some (vI a1), some (vI a2), some (vI a3)]) (st' := [vI (x6.2 5 (Int.toNat (o_add 53 a2))), vI (x6.2 5 (Int.toNat (o_add 47 a1))), vR 0 21 0, vI x6.1]) (M1 := x6.2) (if_pos hc7) ?_
            obtain ⟨x8, hx8, h⟩ := Option.bind_eq_some_iff.mp h
            refine Z_callV8 k_X11_nextAsked k_X11_farOf rfl rfl (l_11_312) (ci := 11) rfl [vI (x6.2 5 (Int.toNat (o_add 47 a1))), vI (x6.2 5 (Int.toNat (o_add 53 a2)))] [vI x6.1] rfl rfl (Nat.le_of_ble_eq_true rfl) (Nat.le_of_ble_eq_true rfl) (e_X11_farOf (d + 1) (x6.2 5 (Int.toNat (o_add 47 a1))) (x6.2 5 (Int.toNat (o_add 53 a2))) x6.2 _ _ hx8) ?_
            refine Z_icmp k_X11_nextAsked rfl 108 rfl (fun hc => ?_) (fun hc => ?_)
            · replace h := of_pos hc h
              refine Z_blk k_X11_nextAsked 2 (pc' := 4) (lo' := [some (vR 0 21 0), some (vI a1), some (vI a2), some (vI (o_add a3 1))]) (st' := []) (M1 := x8.2) rfl ?_
              refine Z_mask [true, true, true, true] (lo0 := [some (vR 0 21 0), some (vI a1), some (vI a2), some (vI (o_add a3 1))]) rfl ?_
              exact ih a1 a2 (o_add a3 1) x8.2 _ _ h
            · replace h := of_neg hc h
              refine Z_blk k_X11_nextAsked 4 (pc' := 4) (lo' := [some (vR 0 21 0), some (vI a1), some (vI a3), some (vI (o_add a3 1))]) (st' := []) (M1 := x8.2) rfl ?_
              refine Z_mask [true, true, true, true] (lo0 := [some (vR 0 21 0), some (vI a1), some (vI a3), some (vI (o_add a3 1))]) rfl ?_
              exact ih a1 a3 (o_add a3 1) x8.2 _ _ h
        · replace h := of_neg hc h
          refine Z_blk k_X11_nextAsked 3 (pc' := 4) (lo' := [some (vR 0 21 0), some (vI a1), some (vI a2), some (vI (o_add a3 1))]) (st' := []) (M1 := x5.2) rfl ?_
          refine Z_mask [true, true, true, true] (lo0 := [some (vR 0 21 0), some (vI a1), some (vI a2), some (vI (o_add a3 1))]) rfl ?_
          exact ih a1 a2 (o_add a3 1) x5.2 _ _ h
def f_X11_nextAsked (a1 : Int) (M : AM) : Option (Int × AM) := f_X11_nextAsked_4 zB a1 (-1) 0 M
theorem e_X11_nextAsked {Y : List (Nat × Nat)} (d : Nat) (a1 : Int) (M : AM) (x : Int) (N : AM) (h : f_X11_nextAsked a1 M = some (x, N)) : Ev Y (d + 2) m_X11_nextAsked 0 [some (vR 0 21 0), some (vI a1), none, none] [] M (some (vI x)) N := by
  unfold f_X11_nextAsked at h
  refine Z_blk k_X11_nextAsked 4 (pc' := 4) (lo' := [some (vR 0 21 0), some (vI a1), some (vI (-1)), some (vI 0)]) (st' := []) (M1 := M) rfl ?_
  refine Z_mask [true, true, true, true] (lo0 := [some (vR 0 21 0), some (vI a1), some (vI (-1)), some (vI 0)]) rfl ?_
  exact e_X11_nextAsked_4 d zB a1 (-1) 0 M _ _ h
theorem l_11_421 : zhas 8186 (Jvm.Cond.methodLink "BellPullHouseModel" 421 yX11_nextAsked) = true := by decide +kernel
def f_X11_asker_2 : Nat → Int → AM → Option (Int × AM)
  | 0, _, _ => none
  | n + 1, a1, M => if M 5 (Int.toNat 2) ≤ a1 then some ((-1), M) else (if 0 ≤ a1 ∧ a1 < 6 then (if 0 ≤ M 11 (Int.toNat a1) then f_X11_asker_2 n (o_add a1 1) M else ((f_X11_nextAsked a1 M).bind fun x2 => if x2.1 < 0 then f_X11_asker_2 n (o_add a1 1) x2.2 else some (a1, x2.2))) else none)
theorem e_X11_asker_2 {Y : List (Nat × Nat)} (d : Nat) : ∀ (n : Nat) (a1 : Int) (M : AM) (x : Int) (N : AM), f_X11_asker_2 n a1 M = some (x, N) → Ev Y (d + 3) m_X11_asker 2 [some (vR 0 21 0), some (vI a1)] [] M (some (vI x)) N := by
  intro n
  induction n with
  | zero => intro a1 M x N h; cases h
  | succ n ih =>
    intro a1 M x N h
    simp only [f_X11_asker_2] at h
    refine Z_blk k_X11_asker 4 (pc' := 8) (lo' := [some (vR 0 21 0), some (vI a1)]) (st' := [vI 2, vR 5 0 1775, vI a1]) (M1 := M) rfl ?_
    refine Z_one k_X11_asker rfl (pc' := 9) (lo' := [some (vR 0 21 0), some (vI a1)]) (st' := [vI (M 5 (Int.toNat 2)), vI a1]) (M1 := M) (rfl) ?_
    refine Z_icmp k_X11_asker rfl 37 rfl (fun hc => ?_) (fun hc => ?_)
    · replace h := of_pos hc h
      refine Z_blk k_X11_asker 1 (pc' := 38) (lo' := [some (vR 0 21 0), some (vI a1)]) (st' := [vI (-1)]) (M1 := M) rfl ?_
      cases h
      exact Z_ret ⟨Or.inl rfl, _, rfl⟩ rfl
    · replace h := of_neg hc h
      refine Z_blk k_X11_asker 3 (pc' := 17) (lo' := [some (vR 0 21 0), some (vI a1)]) (st' := [vI a1, vR 11 0 6]) (M1 := M) rfl ?_
      obtain ⟨hc1, h⟩ := of_grd h
      refine Z_one k_X11_asker rfl (pc' := 18) (lo' := [some (vR 0 21 0), some (vI a1)]) (st' := [vI (M 11 (Int.toNat a1))]) (M1 := M) (if_pos hc1) ?_
      refine Z_if k_X11_asker rfl 31 rfl (fun hc => ?_) (fun hc => ?_)
      · replace h := of_pos hc h
        refine Z_blk k_X11_asker 2 (pc' := 2) (lo' := [some (vR 0 21 0), some (vI (o_add a1 1))]) (st' := []) (M1 := M) rfl ?_
        refine Z_mask [true, true] (lo0 := [some (vR 0 21 0), some (vI (o_add a1 1))]) rfl ?_
        exact ih (o_add a1 1) M _ _ h
      · replace h := of_neg hc h
        refine Z_blk k_X11_asker 2 (pc' := 23) (lo' := [some (vR 0 21 0), some (vI a1)]) (st' := [vI a1, vR 0 21 0]) (M1 := M) rfl ?_
        obtain ⟨x2, hx2, h⟩ := Option.bind_eq_some_iff.mp h
        refine Z_callV8 k_X11_asker k_X11_nextAsked rfl rfl (l_11_421) (ci := 11) rfl [vI a1] [] rfl rfl (Nat.le_of_ble_eq_true rfl) (Nat.le_of_ble_eq_true rfl) (e_X11_nextAsked (d + 0) a1 M _ _ hx2) ?_
        refine Z_if k_X11_asker rfl 31 rfl (fun hc => ?_) (fun hc => ?_)
        · replace h := of_pos hc h
          refine Z_blk k_X11_asker 2 (pc' := 2) (lo' := [some (vR 0 21 0), some (vI (o_add a1 1))]) (st' := []) (M1 := x2.2) rfl ?_
          refine Z_mask [true, true] (lo0 := [some (vR 0 21 0), some (vI (o_add a1 1))]) rfl ?_
          exact ih (o_add a1 1) x2.2 _ _ h
        · replace h := of_neg hc h
          refine Z_blk k_X11_asker 1 (pc' := 30) (lo' := [some (vR 0 21 0), some (vI a1)]) (st' := [vI a1]) (M1 := x2.2) rfl ?_
          cases h
          exact Z_ret ⟨Or.inl rfl, _, rfl⟩ rfl
def f_X11_asker (M : AM) : Option (Int × AM) := f_X11_asker_2 zB 0 M
theorem e_X11_asker {Y : List (Nat × Nat)} (d : Nat) (M : AM) (x : Int) (N : AM) (h : f_X11_asker M = some (x, N)) : Ev Y (d + 3) m_X11_asker 0 [some (vR 0 21 0), none] [] M (some (vI x)) N := by
  unfold f_X11_asker at h
  refine Z_blk k_X11_asker 2 (pc' := 2) (lo' := [some (vR 0 21 0), some (vI 0)]) (st' := []) (M1 := M) rfl ?_
  refine Z_mask [true, true] (lo0 := [some (vR 0 21 0), some (vI 0)]) rfl ?_
  exact e_X11_asker_2 d zB 0 M _ _ h
theorem l_11_424 : zhas 8182 (Jvm.Cond.methodLink "BellPullHouseModel" 424 yX11_asker) = true := by decide +kernel
def f_X11_laysPairs_149 (k_44 : Int → AM → Option (AM)) (M : AM) : Option (AM) := (f_X11_asker M).bind fun x1 => k_44 x1.1 x1.2
theorem e_X11_laysPairs_149 {Y : List (Nat × Nat)} (d : Nat) (k_44 : Int → AM → Option (AM)) (hk_44 : ∀ (a1 : Int) (M : AM) (N : AM), k_44 a1 M = some N → Ev Y (d + 4) m_X11_laysPairs 44 [some (vR 0 21 0), some (vI a1), none, none] [] M none N) (M : AM) (N : AM) (h : f_X11_laysPairs_149 k_44 M = some N) : Ev Y (d + 4) m_X11_laysPairs 149 [some (vR 0 21 0), none, none, none] [] M none N := by
  unfold f_X11_laysPairs_149 at h
  refine Z_blk k_X11_laysPairs 1 (pc' := 150) (lo' := [some (vR 0 21 0), none, none, none]) (st' := [vR 0 21 0]) (M1 := M) rfl ?_
  obtain ⟨x1, hx1, h⟩ := Option.bind_eq_some_iff.mp h
  refine Z_callV8 k_X11_laysPairs k_X11_asker rfl rfl (l_11_424) (ci := 11) rfl [] [] rfl rfl (Nat.le_of_ble_eq_true rfl) (Nat.le_of_ble_eq_true rfl) (e_X11_asker (d + 0) M _ _ hx1) ?_
  refine Z_blk k_X11_laysPairs 2 (pc' := 44) (lo' := [some (vR 0 21 0), some (vI x1.1), none, none]) (st' := []) (M1 := x1.2) rfl ?_
  refine Z_mask [true, true, false, false] (lo0 := [some (vR 0 21 0), some (vI x1.1), none, none]) rfl ?_
  exact hk_44 x1.1 x1.2 _ h
def f_X11_laysPairs_124 (k_44 : Int → AM → Option (AM)) (a1 : Int) (a2 : Int) (a3 : Int) (M : AM) : Option (AM) := if a3 < 0 then (if 0 ≤ a2 ∧ a2 < 6 then (zlet (am_upd M 12 (Int.toNat a2) a1) fun M2 => if 0 ≤ a1 ∧ a1 < 6 then (zlet (am_upd M2 11 (Int.toNat a1) a2) fun M4 => f_X11_laysPairs_149 k_44 M4) else none) else none) else (if 0 ≤ a3 ∧ a3 < 6 then (zlet (am_upd M 11 (Int.toNat a3) (-1)) fun M6 => if 0 ≤ a2 ∧ a2 < 6 then (zlet (am_upd M6 12 (Int.toNat a2) a1) fun M8 => if 0 ≤ a1 ∧ a1 < 6 then (zlet (am_upd M8 11 (Int.toNat a1) a2) fun M10 => f_X11_laysPairs_149 k_44 M10) else none) else none) else none)
theorem e_X11_laysPairs_124 {Y : List (Nat × Nat)} (d : Nat) (k_44 : Int → AM → Option (AM)) (hk_44 : ∀ (a1 : Int) (M : AM) (N : AM), k_44 a1 M = some N → Ev Y (d + 4) m_X11_laysPairs 44 [some (vR 0 21 0), some (vI a1), none, none] [] M none N) (a1 : Int) (a2 : Int) (a3 : Int) (M : AM) (N : AM) (h : f_X11_laysPairs_124 k_44 a1 a2 a3 M = some N) : Ev Y (d + 4) m_X11_laysPairs 124 [some (vR 0 21 0), some (vI a1), some (vI a2), some (vI a3)] [] M none N := by
  unfold f_X11_laysPairs_124 at h
  refine Z_blk k_X11_laysPairs 1 (pc' := 125) (lo' := [some (vR 0 21 0), some (vI a1), some (vI a2), some (vI a3)]) (st' := [vI a3]) (M1 := M) rfl ?_
  refine Z_if k_X11_laysPairs rfl 135 rfl (fun hc => ?_) (fun hc => ?_)
  · replace h := of_pos hc h
    refine Z_blk k_X11_laysPairs 4 (pc' := 141) (lo' := [some (vR 0 21 0), some (vI a1), some (vI a2), some (vI a3)]) (st' := [vI a1, vI a2, vR 12 0 6]) (M1 := M) rfl ?_
    obtain ⟨hc1, h⟩ := of_grd h
    obtain ⟨M2, eM2, h⟩ := of_zlet h
    refine Z_one k_X11_laysPairs rfl (pc' := 142) (lo' := [some (vR 0 21 0), some (vI a1), some (vI a2), some (vI a3)]) (st' := []) (M1 := M2) (by rw [eM2]; exact if_pos hc1) ?_
    refine Z_blk k_X11_laysPairs 4 (pc' := 148) (lo' := [some (vR 0 21 0), some (vI a1), some (vI a2), some (vI a3)]) (st' := [vI a2, vI a1, vR 11 0 6]) (M1 := M2) rfl ?_
    obtain ⟨hc3, h⟩ := of_grd h
    obtain ⟨M4, eM4, h⟩ := of_zlet h
    refine Z_one k_X11_laysPairs rfl (pc' := 149) (lo' := [some (vR 0 21 0), some (vI a1), some (vI a2), some (vI a3)]) (st' := []) (M1 := M4) (by rw [eM4]; exact if_pos hc3) ?_
    refine Z_mask [true, false, false, false] (lo0 := [some (vR 0 21 0), none, none, none]) rfl ?_
    exact e_X11_laysPairs_149 d k_44 hk_44 M4 _ h
  · replace h := of_neg hc h
    refine Z_blk k_X11_laysPairs 4 (pc' := 134) (lo' := [some (vR 0 21 0), some (vI a1), some (vI a2), some (vI a3)]) (st' := [vI (-1), vI a3, vR 11 0 6]) (M1 := M) rfl ?_
    obtain ⟨hc5, h⟩ := of_grd h
    obtain ⟨M6, eM6, h⟩ := of_zlet h
    refine Z_one k_X11_laysPairs rfl (pc' := 135) (lo' := [some (vR 0 21 0), some (vI a1), some (vI a2), some (vI a3)]) (st' := []) (M1 := M6) (by rw [eM6]; exact if_pos hc5) ?_
    refine Z_blk k_X11_laysPairs 4 (pc' := 141) (lo' := [some (vR 0 21 0), some (vI a1), some (vI a2), some (vI a3)]) (st' := [vI a1, vI a2, vR 12 0 6]) (M1 := M6) rfl ?_
    obtain ⟨hc7, h⟩ := of_grd h
    obtain ⟨M8, eM8, h⟩ := of_zlet h
    refine Z_one k_X11_laysPairs rfl (pc' := 142) (lo' := [some (vR 0 21 0), some (vI a1), some (vI a2), some (vI a3)]) (st' := []) (M1 := M8) (by rw [eM8]; exact if_pos hc7) ?_
    refine Z_blk k_X11_laysPairs 4 (pc' := 148) (lo' := [some (vR 0 21 0), some (vI a1), some (vI a2), some (vI a3)]) (st' := [vI a2, vI a1, vR 11 0 6]) (M1 := M8) rfl ?_
    obtain ⟨hc9, h⟩ := of_grd h
    obtain ⟨M10, eM10, h⟩ := of_zlet h
    refine Z_one k_X11_laysPairs rfl (pc' := 149) (lo' := [some (vR 0 21 0), some (vI a1), some (vI a2), some (vI a3)]) (st' := []) (M1 := M10) (by rw [eM10]; exact if_pos hc9) ?_
    refine Z_mask [true, false, false, false] (lo0 := [some (vR 0 21 0), none, none, none]) rfl ?_
    exact e_X11_laysPairs_149 d k_44 hk_44 M10 _ h
def f_X11_laysPairs_44 : Nat → Int → AM → Option (AM)
  | 0, _, _ => none
  | n + 1, a1, M => if a1 < 0 then some M else ((f_X11_nextAsked a1 M).bind fun x1 => if 0 ≤ x1.1 ∧ x1.1 < 6 then (if 0 ≤ a1 ∧ a1 < 6 then (zlet (am_upd x1.2 13 (Int.toNat a1) (o_or (x1.2 13 (Int.toNat a1)) (o_shl 1 x1.1))) fun M4 => if x1.2 12 (Int.toNat x1.1) < 0 then f_X11_laysPairs_124 (f_X11_laysPairs_44 n) a1 x1.1 (x1.2 12 (Int.toNat x1.1)) M4 else (if 0 ≤ o_add 47 (x1.2 12 (Int.toNat x1.1)) ∧ o_add 47 (x1.2 12 (Int.toNat x1.1)) < 1775 then (if 0 ≤ o_add 53 x1.1 ∧ o_add 53 x1.1 < 1775 then ((f_X11_farOf (M4 5 (Int.toNat (o_add 47 (x1.2 12 (Int.toNat x1.1))))) (M4 5 (Int.toNat (o_add 53 x1.1))) M4).bind fun x7 => if 0 ≤ o_add 47 a1 ∧ o_add 47 a1 < 1775 then ((f_X11_farOf (x7.2 5 (Int.toNat (o_add 47 a1))) (x7.2 5 (Int.toNat (o_add 53 x1.1))) x7.2).bind fun x9 => if x7.1 ≤ x9.1 then f_X11_laysPairs_149 (f_X11_laysPairs_44 n) x9.2 else f_X11_laysPairs_124 (f_X11_laysPairs_44 n) a1 x1.1 (x1.2 12 (Int.toNat x1.1)) x9.2) else none) else none) else none)) else none) else none)
theorem e_X11_laysPairs_44 {Y : List (Nat × Nat)} (d : Nat) : ∀ (n : Nat) (a1 : Int) (M : AM) (N : AM), f_X11_laysPairs_44 n a1 M = some N → Ev Y (d + 4) m_X11_laysPairs 44 [some (vR 0 21 0), some (vI a1), none, none] [] M none N := by
  intro n
  induction n with
  | zero => intro a1 M N h; cases h
  | succ n ih =>
    intro a1 M N h
    simp only [f_X11_laysPairs_44] at h
    refine Z_blk k_X11_laysPairs 1 (pc' := 45) (lo' := [some (vR 0 21 0), some (vI a1), none, none]) (st' := [vI a1]) (M1 := M) rfl ?_
    refine Z_if k_X11_laysPairs rfl 157 rfl (fun hc => ?_) (fun hc => ?_)
    · replace h := of_pos hc h
      cases h
      exact Z_ret ⟨rfl, _, rfl⟩ rfl
    · replace h := of_neg hc h
      refine Z_blk k_X11_laysPairs 2 (pc' := 50) (lo' := [some (vR 0 21 0), some (vI a1), none, none]) (st' := [vI a1, vR 0 21 0]) (M1 := M) rfl ?_
      obtain ⟨x1, hx1, h⟩ := Option.bind_eq_some_iff.mp h
      refine Z_callV8 k_X11_laysPairs k_X11_nextAsked rfl rfl (l_11_421) (ci := 11) rfl [vI a1] [] rfl rfl (Nat.le_of_ble_eq_true rfl) (Nat.le_of_ble_eq_true rfl) (e_X11_nextAsked (d + 1) a1 M _ _ hx1) ?_
      refine Z_blk k_X11_laysPairs 4 (pc' := 59) (lo' := [some (vR 0 21 0), some (vI a1), some (vI x1.1), none]) (st' := [vI x1.1, vR 12 0 6]) (M1 := x1.2) rfl ?_
      obtain ⟨hc2, h⟩ := of_grd h
      refine Z_one k_X11_laysPairs rfl (pc' := 60) (lo' := [some (vR 0 21 0), some (vI a1), some (vI x1.1), none]) (st' := [vI (x1.2 12 (Int.toNat x1.1))]) (M1 := x1.2) (if_pos hc2) ?_
      refine Z_blk k_X11_laysPairs 5 (pc' := 67) (lo' := [some (vR 0 21 0), some (vI a1), some (vI x1.1), some (vI (x1.2 12 (Int.toNat x1.1)))]) (st' := [vI a1, vR 13 0 6, vI a1, vR 13 0 6]) (M1 := x1.2) rfl ?_
      obtain ⟨hc3, h⟩ := of_grd h
      refine Z_one k_X11_laysPairs rfl (pc' := 68) (lo' := [some (vR 0 21 0), some (vI a1), some (vI x1.1), some (vI (x1.2 12 (Int.toNat x1.1)))]) (st' := [vI (x1.2 13 (Int.toNat a1)), vI a1, vR 13 0 6]) (M1 := x1.2) (if_pos hc3) ?_
      refine Z_blk k_X11_laysPairs 4 (pc' := 72) (lo' := [some (vR 0 21 0), some (vI a1), some (vI x1.1), some (vI (x1.2 12 (Int.toNat x1.1)))]) (st' := [vI (o_or (x1.2 13 (Int.toNat a1)) (o_shl 1 x1.1)), vI a1, vR 13 0 6]) (M1 := x1.2) rfl ?_
      obtain ⟨M4, eM4, h⟩ := of_zlet h
      refine Z_one k_X11_laysPairs rfl (pc' := 73) (lo' := [some (vR 0 21 0), some (vI a1), some (vI x1.1), some (vI (x1.2 12 (Int.toNat x1.1)))]) (st' := []) (M1 := M4) (by rw [eM4]; exact if_pos hc3) ?_
      refine Z_blk k_X11_laysPairs 1 (pc' := 74) (lo' := [some (vR 0 21 0), some (vI a1), some (vI x1.1), some (vI (x1.2 12 (Int.toNat x1.1)))]) (st' := [vI (x1.2 12 (Int.toNat x1.1))]) (M1 := M4) rfl ?_
      refine Z_if k_X11_laysPairs rfl 124 rfl (fun hc => ?_) (fun hc => ?_)
      · replace h := of_pos hc h
        refine Z_mask [true, true, true, true] (lo0 := [some (vR 0 21 0), some (vI a1), some (vI x1.1), some (vI (x1.2 12 (Int.toNat x1.1)))]) rfl ?_
        exact e_X11_laysPairs_124 d (f_X11_laysPairs_44 n) ih a1 x1.1 (x1.2 12 (Int.toNat x1.1)) M4 _ h
      · replace h := of_neg hc h
        refine Z_blk k_X11_laysPairs 6 (pc' := 86) (lo' := [some (vR 0 21 0), some (vI a1), some (vI x1.1), some (vI (x1.2 12 (Int.toNat x1.1)))]) (st' := [vI (o_add 47 (x1.2 12 (Int.toNat x1.1))), vR 5 0 1775, vR 0 21 0]) (M1 := M4) rfl ?_
        obtain ⟨hc5, h⟩ := of_grd h
        refine Z_one k_X11_laysPairs rfl (pc' := 87) (lo' := [some (vR 0 21 0), some (vI a1), some (vI x1.1), some (vI (x1.2 12 (Int.toNat x1.1)))]) (st' := [vI (M4 5 (Int.toNat (o_add 47 (x1.2 12 (Int.toNat x1.1))))), vR 0 21 0]) (M1 := M4) (if_pos hc5) ?_
        refine Z_blk k_X11_laysPairs 5 (pc' := 95) (lo' := [some (vR 0 21 0), some (vI a1), some (vI x1.1), some (vI (x1.2 12 (Int.toNat x1.1)))]) (st' := [vI (o_add 53 x1.1), vR 5 0 1775, vI (M4 5 (Int.toNat (o_add 47 (x1.2 12 (Int.toNat x1.1))))), vR 0 21 0]) (M1 := M4) rfl ?_
        obtain ⟨hc6, h⟩ := of_grd h
        refine Z_one k_X11_laysPairs rfl (pc' := 96) (lo' := [some (vR 0 21 0), some (vI a1), some (vI x1.1), some (vI (x1.2 12 (Int.toNat x1.1)))]) (st' := [vI (M4 5 (Int.toNat (o_add 53 x1.1))), vI (M4 5 (Int.toNat (o_add 47 (x1.2 12 (Int.toNat x1.1))))), vR 0 21 0]) (M1 := M4) (if_pos hc6) ?_
        obtain ⟨x7, hx7, h⟩ := Option.bind_eq_some_iff.mp h
        refine Z_callV8 k_X11_laysPairs k_X11_farOf rfl rfl (l_11_312) (ci := 11) rfl [vI (M4 5 (Int.toNat (o_add 47 (x1.2 12 (Int.toNat x1.1))))), vI (M4 5 (Int.toNat (o_add 53 x1.1)))] [] rfl rfl (Nat.le_of_ble_eq_true rfl) (Nat.le_of_ble_eq_true rfl) (e_X11_farOf (d + 3) (M4 5 (Int.toNat (o_add 47 (x1.2 12 (Int.toNat x1.1))))) (M4 5 (Int.toNat (o_add 53 x1.1))) M4 _ _ hx7) ?_
        refine Z_blk k_X11_laysPairs 6 (pc' := 108) (lo' := [some (vR 0 21 0), some (vI a1), some (vI x1.1), some (vI (x1.2 12 (Int.toNat x1.1)))]) (st' := [vI (o_add 47 a1), vR 5 0 1775, vR 0 21 0, vI x7.1]) (M1 := x7.2) rfl ?_
        obtain ⟨hc8, h⟩ := of_grd h
        refine Z_one k_X11_laysPairs rfl (pc' := 109) (lo' := [some (vR 0 21 0), some (vI a1), some (vI x1.1), some (vI (x1.2 12 (Int.toNat x1.1)))]) (st' := [vI (x7.2 5 (Int.toNat (o_add 47 a1))), vR 0 21 0, vI x7.1]) (M1 := x7.2) (if_pos hc8) ?_
        refine Z_blk k_X11_laysPairs 5 (pc' := 117) (lo' := [some (vR 0 21 0), some (vI a1), some (vI x1.1), some (vI (x1.2 12 (Int.toNat x1.1)))]) (st' := [vI (o_add 53 x1.1), vR 5 0 1775, vI (x7.2 5 (Int.toNat (o_add 47 a1))), vR 0 21 0, vI x7.1]) (M1 := x7.2) rfl ?_
        refine Z_one k_X11_laysPairs rfl (pc' := 118) (lo' := [some (vR 0 21 0), some (vI a1), some (vI x1.1), some (vI (x1.2 12 (Int.toNat x1.1)))]) (st' := [vI (x7.2 5 (Int.toNat (o_add 53 x1.1))), vI (x7.2 5 (Int.toNat (o_add 47 a1))), vR 0 21 0, vI x7.1]) (M1 := x7.2) (if_pos hc6) ?_
        obtain ⟨x9, hx9, h⟩ := Option.bind_eq_some_iff.mp h
        refine Z_callV8 k_X11_laysPairs k_X11_farOf rfl rfl (l_11_312) (ci := 11) rfl [vI (x7.2 5 (Int.toNat (o_add 47 a1))), vI (x7.2 5 (Int.toNat (o_add 53 x1.1)))] [vI x7.1] rfl rfl (Nat.le_of_ble_eq_true rfl) (Nat.le_of_ble_eq_true rfl) (e_X11_farOf (d + 3) (x7.2 5 (Int.toNat (o_add 47 a1))) (x7.2 5 (Int.toNat (o_add 53 x1.1))) x7.2 _ _ hx9) ?_
        refine Z_icmp k_X11_laysPairs rfl 149 rfl (fun hc => ?_) (fun hc => ?_)
        · replace h := of_pos hc h
          refine Z_mask [true, false, false, false] (lo0 := [some (vR 0 21 0), none, none, none]) rfl ?_
          exact e_X11_laysPairs_149 d (f_X11_laysPairs_44 n) ih x9.2 _ h
        · replace h := of_neg hc h
          refine Z_mask [true, true, true, true] (lo0 := [some (vR 0 21 0), some (vI a1), some (vI x1.1), some (vI (x1.2 12 (Int.toNat x1.1)))]) rfl ?_
          exact e_X11_laysPairs_124 d (f_X11_laysPairs_44 n) ih a1 x1.1 (x1.2 12 (Int.toNat x1.1)) x9.2 _ h
def f_X11_laysPairs_6 : Nat → Int → AM → Option (AM)
  | 0, _, _ => none
  | n + 1, a1, M => if 6 ≤ a1 then ((f_X11_asker M).bind fun x1 => f_X11_laysPairs_44 zB x1.1 x1.2) else (if 0 ≤ a1 ∧ a1 < 6 then (zlet (am_upd M 11 (Int.toNat a1) (-1)) fun M3 => zlet (am_upd M3 12 (Int.toNat a1) (-1)) fun M4 => zlet (am_upd M4 13 (Int.toNat a1) 0) fun M5 => f_X11_laysPairs_6 n (o_add a1 1) M5) else none)
theorem e_X11_laysPairs_6 {Y : List (Nat × Nat)} (d : Nat) : ∀ (n : Nat) (a1 : Int) (M : AM) (N : AM), f_X11_laysPairs_6 n a1 M = some N → Ev Y (d + 4) m_X11_laysPairs 6 [some (vR 0 21 0), some (vI a1), none, none] [] M none N := by
  intro n
  induction n with
  | zero => intro a1 M N h; cases h
  | succ n ih =>
    intro a1 M N h
    simp only [f_X11_laysPairs_6] at h
    refine Z_blk k_X11_laysPairs 2 (pc' := 9) (lo' := [some (vR 0 21 0), some (vI a1), none, none]) (st' := [vI 6, vI a1]) (M1 := M) rfl ?_
    refine Z_icmp k_X11_laysPairs rfl 39 rfl (fun hc => ?_) (fun hc => ?_)
    · replace h := of_pos hc h
      refine Z_blk k_X11_laysPairs 1 (pc' := 40) (lo' := [some (vR 0 21 0), some (vI a1), none, none]) (st' := [vR 0 21 0]) (M1 := M) rfl ?_
      obtain ⟨x1, hx1, h⟩ := Option.bind_eq_some_iff.mp h
      refine Z_callV8 k_X11_laysPairs k_X11_asker rfl rfl (l_11_424) (ci := 11) rfl [] [] rfl rfl (Nat.le_of_ble_eq_true rfl) (Nat.le_of_ble_eq_true rfl) (e_X11_asker (d + 0) M _ _ hx1) ?_
      refine Z_blk k_X11_laysPairs 1 (pc' := 44) (lo' := [some (vR 0 21 0), some (vI x1.1), none, none]) (st' := []) (M1 := x1.2) rfl ?_
      refine Z_mask [true, true, false, false] (lo0 := [some (vR 0 21 0), some (vI x1.1), none, none]) rfl ?_
      exact e_X11_laysPairs_44 d zB x1.1 x1.2 _ h
    · replace h := of_neg hc h
      refine Z_blk k_X11_laysPairs 4 (pc' := 18) (lo' := [some (vR 0 21 0), some (vI a1), none, none]) (st' := [vI (-1), vI a1, vR 11 0 6]) (M1 := M) rfl ?_
      obtain ⟨hc2, h⟩ := of_grd h
      obtain ⟨M3, eM3, h⟩ := of_zlet h
      refine Z_one k_X11_laysPairs rfl (pc' := 19) (lo' := [some (vR 0 21 0), some (vI a1), none, none]) (st' := []) (M1 := M3) (by rw [eM3]; exact if_pos hc2) ?_
      refine Z_blk k_X11_laysPairs 4 (pc' := 25) (lo' := [some (vR 0 21 0), some (vI a1), none, none]) (st' := [vI (-1), vI a1, vR 12 0 6]) (M1 := M3) rfl ?_
      obtain ⟨M4, eM4, h⟩ := of_zlet h
      refine Z_one k_X11_laysPairs rfl (pc' := 26) (lo' := [some (vR 0 21 0), some (vI a1), none, none]) (st' := []) (M1 := M4) (by rw [eM4]; exact if_pos hc2) ?_
      refine Z_blk k_X11_laysPairs 4 (pc' := 32) (lo' := [some (vR 0 21 0), some (vI a1), none, none]) (st' := [vI 0, vI a1, vR 13 0 6]) (M1 := M4) rfl ?_
      obtain ⟨M5, eM5, h⟩ := of_zlet h
      refine Z_one k_X11_laysPairs rfl (pc' := 33) (lo' := [some (vR 0 21 0), some (vI a1), none, none]) (st' := []) (M1 := M5) (by rw [eM5]; exact if_pos hc2) ?_
      refine Z_blk k_X11_laysPairs 2 (pc' := 6) (lo' := [some (vR 0 21 0), some (vI (o_add a1 1)), none, none]) (st' := []) (M1 := M5) rfl ?_
      refine Z_mask [true, true, false, false] (lo0 := [some (vR 0 21 0), some (vI (o_add a1 1)), none, none]) rfl ?_
      exact ih (o_add a1 1) M5 _ h
def f_X11_laysPairs (M : AM) : Option (AM) := (f_X11_laysFar M).bind fun x1 => f_X11_laysPairs_6 zB 0 x1
theorem e_X11_laysPairs {Y : List (Nat × Nat)} (d : Nat) (M : AM) (N : AM) (h : f_X11_laysPairs M = some N) : Ev Y (d + 4) m_X11_laysPairs 0 [some (vR 0 21 0), none, none, none] [] M none N := by
  unfold f_X11_laysPairs at h
  refine Z_blk k_X11_laysPairs 1 (pc' := 1) (lo' := [some (vR 0 21 0), none, none, none]) (st' := [vR 0 21 0]) (M1 := M) rfl ?_
  obtain ⟨x1, hx1, h⟩ := Option.bind_eq_some_iff.mp h
  refine Z_callV8 k_X11_laysPairs k_X11_laysFar rfl rfl (l_11_318) (ci := 11) rfl [] [] rfl rfl (Nat.le_of_ble_eq_true rfl) (Nat.le_of_ble_eq_true rfl) (e_X11_laysFar (d + 3) M _ hx1) ?_
  refine Z_blk k_X11_laysPairs 2 (pc' := 6) (lo' := [some (vR 0 21 0), some (vI 0), none, none]) (st' := []) (M1 := x1) rfl ?_
  refine Z_mask [true, true, false, false] (lo0 := [some (vR 0 21 0), some (vI 0), none, none]) rfl ?_
  exact e_X11_laysPairs_6 d zB 0 x1 _ h
theorem l_11_427 : zhas 8178 (Jvm.Cond.methodLink "BellPullHouseModel" 427 yX11_laysPairs) = true := by decide +kernel
def f_X11_pair (a1 : Int) (M : AM) : Option (Int × AM) := zlet (am_upd M 0 1 0) fun M1 => zlet (am_upd M1 0 0 0) fun M2 => (f_X11_isCoupleAt a1 M2).bind fun x3 => if ¬ x3.1 = 0 then ((f_X11_laysPairs x3.2).bind fun x4 => if 0 ≤ a1 ∧ a1 < 6 then (if 0 ≤ x4 11 (Int.toNat a1) then some (x4 11 (Int.toNat a1), x4) else ((f_X11_refuse 8 x4).bind fun x6 => some (x6.1, x6.2))) else none) else ((f_X11_refuse 2 x3.2).bind fun x7 => some (x7.1, x7.2))
theorem e_X11_pair {Y : List (Nat × Nat)} (d : Nat) (a1 : Int) (M : AM) (x : Int) (N : AM) (h : f_X11_pair a1 M = some (x, N)) : Ev Y (d + 5) m_X11_pair 0 [some (vR 0 21 0), some (vI a1)] [] M (some (vI x)) N := by
  unfold f_X11_pair at h
  obtain ⟨M1, eM1, h⟩ := of_zlet h
  refine Z_blk k_X11_pair 3 (pc' := 5) (lo' := [some (vR 0 21 0), some (vI a1)]) (st' := []) (M1 := M1) (by rw [eM1]; rfl) ?_
  obtain ⟨M2, eM2, h⟩ := of_zlet h
  refine Z_blk k_X11_pair 3 (pc' := 10) (lo' := [some (vR 0 21 0), some (vI a1)]) (st' := []) (M1 := M2) (by rw [eM2]; rfl) ?_
  refine Z_blk k_X11_pair 2 (pc' := 12) (lo' := [some (vR 0 21 0), some (vI a1)]) (st' := [vI a1, vR 0 21 0]) (M1 := M2) rfl ?_
  obtain ⟨x3, hx3, h⟩ := Option.bind_eq_some_iff.mp h
  refine Z_callV8 k_X11_pair k_X11_isCoupleAt rfl rfl (l_11_341) (ci := 11) rfl [vI a1] [] rfl rfl (Nat.le_of_ble_eq_true rfl) (Nat.le_of_ble_eq_true rfl) (e_X11_isCoupleAt (d + 3) a1 M2 _ _ hx3) ?_
  refine Z_if k_X11_pair rfl 24 rfl (fun hc => ?_) (fun hc => ?_)
  · replace h := of_pos hc h
    refine Z_blk k_X11_pair 1 (pc' := 25) (lo' := [some (vR 0 21 0), some (vI a1)]) (st' := [vR 0 21 0]) (M1 := x3.2) rfl ?_
    obtain ⟨x4, hx4, h⟩ := Option.bind_eq_some_iff.mp h
    refine Z_callV8 k_X11_pair k_X11_laysPairs rfl rfl (l_11_427) (ci := 11) rfl [] [] rfl rfl (Nat.le_of_ble_eq_true rfl) (Nat.le_of_ble_eq_true rfl) (e_X11_laysPairs (d + 0) x3.2 _ hx4) ?_
    refine Z_blk k_X11_pair 3 (pc' := 33) (lo' := [some (vR 0 21 0), some (vI a1)]) (st' := [vI a1, vR 11 0 6]) (M1 := x4) rfl ?_
    obtain ⟨hc5, h⟩ := of_grd h
    refine Z_one k_X11_pair rfl (pc' := 34) (lo' := [some (vR 0 21 0), some (vI a1)]) (st' := [vI (x4 11 (Int.toNat a1))]) (M1 := x4) (if_pos hc5) ?_
    refine Z_if k_X11_pair rfl 46 rfl (fun hc => ?_) (fun hc => ?_)
    · replace h := of_pos hc h
      refine Z_blk k_X11_pair 3 (pc' := 51) (lo' := [some (vR 0 21 0), some (vI a1)]) (st' := [vI a1, vR 11 0 6]) (M1 := x4) rfl ?_
      refine Z_one k_X11_pair rfl (pc' := 52) (lo' := [some (vR 0 21 0), some (vI a1)]) (st' := [vI (x4 11 (Int.toNat a1))]) (M1 := x4) (if_pos hc5) ?_
      cases h
      exact Z_ret ⟨Or.inl rfl, _, rfl⟩ rfl
    · replace h := of_neg hc h
      refine Z_blk k_X11_pair 2 (pc' := 40) (lo' := [some (vR 0 21 0), some (vI a1)]) (st' := [vI 8, vR 0 21 0]) (M1 := x4) rfl ?_
      obtain ⟨x6, hx6, h⟩ := Option.bind_eq_some_iff.mp h
      refine Z_callV8 k_X11_pair k_X11_refuse rfl rfl (l_11_326) (ci := 11) rfl [vI 8] [] rfl rfl (Nat.le_of_ble_eq_true rfl) (Nat.le_of_ble_eq_true rfl) (e_X11_refuse (d + 4) 8 x4 _ _ hx6) ?_
      refine Z_blk k_X11_pair 1 (pc' := 52) (lo' := [some (vR 0 21 0), some (vI a1)]) (st' := [vI x6.1]) (M1 := x6.2) rfl ?_
      cases h
      exact Z_ret ⟨Or.inl rfl, _, rfl⟩ rfl
  · replace h := of_neg hc h
    refine Z_blk k_X11_pair 2 (pc' := 20) (lo' := [some (vR 0 21 0), some (vI a1)]) (st' := [vI 2, vR 0 21 0]) (M1 := x3.2) rfl ?_
    obtain ⟨x7, hx7, h⟩ := Option.bind_eq_some_iff.mp h
    refine Z_callV8 k_X11_pair k_X11_refuse rfl rfl (l_11_326) (ci := 11) rfl [vI 2] [] rfl rfl (Nat.le_of_ble_eq_true rfl) (Nat.le_of_ble_eq_true rfl) (e_X11_refuse (d + 4) 2 x3.2 _ _ hx7) ?_
    cases h
    exact Z_ret ⟨Or.inl rfl, _, rfl⟩ rfl
def f_X11_swapped_18 : Nat → Int → Int → AM → Option (Int × AM)
  | 0, _, _, _ => none
  | n + 1, a1, a2, M => if M 5 (Int.toNat 2) ≤ a2 then some (a1, M) else (if 0 ≤ a2 ∧ a2 < 6 then (if M 11 (Int.toNat a2) < 0 then f_X11_swapped_18 n (o_add a1 0) (o_add a2 1) M else (if M 11 (Int.toNat a2) = a2 then f_X11_swapped_18 n (o_add a1 0) (o_add a2 1) M else f_X11_swapped_18 n (o_add a1 1) (o_add a2 1) M)) else none)
theorem e_X11_swapped_18 {Y : List (Nat × Nat)} (d : Nat) : ∀ (n : Nat) (a1 : Int) (a2 : Int) (M : AM) (x : Int) (N : AM), f_X11_swapped_18 n a1 a2 M = some (x, N) → Ev Y (d + 5) m_X11_swapped 18 [some (vR 0 21 0), some (vI a1), some (vI a2)] [] M (some (vI x)) N := by
  intro n
  induction n with
  | zero => intro a1 a2 M x N h; cases h
  | succ n ih =>
    intro a1 a2 M x N h
    simp only [f_X11_swapped_18] at h
    refine Z_blk k_X11_swapped 4 (pc' := 24) (lo' := [some (vR 0 21 0), some (vI a1), some (vI a2)]) (st' := [vI 2, vR 5 0 1775, vI a2]) (M1 := M) rfl ?_
    refine Z_one k_X11_swapped rfl (pc' := 25) (lo' := [some (vR 0 21 0), some (vI a1), some (vI a2)]) (st' := [vI (M 5 (Int.toNat 2)), vI a2]) (M1 := M) (rfl) ?_
    refine Z_icmp k_X11_swapped rfl 61 rfl (fun hc => ?_) (fun hc => ?_)
    · replace h := of_pos hc h
      refine Z_blk k_X11_swapped 1 (pc' := 62) (lo' := [some (vR 0 21 0), some (vI a1), some (vI a2)]) (st' := [vI a1]) (M1 := M) rfl ?_
      cases h
      exact Z_ret ⟨Or.inl rfl, _, rfl⟩ rfl
    · replace h := of_neg hc h
      refine Z_blk k_X11_swapped 4 (pc' := 34) (lo' := [some (vR 0 21 0), some (vI a1), some (vI a2)]) (st' := [vI a2, vR 11 0 6, vI a1]) (M1 := M) rfl ?_
      obtain ⟨hc1, h⟩ := of_grd h
      refine Z_one k_X11_swapped rfl (pc' := 35) (lo' := [some (vR 0 21 0), some (vI a1), some (vI a2)]) (st' := [vI (M 11 (Int.toNat a2)), vI a1]) (M1 := M) (if_pos hc1) ?_
      refine Z_if k_X11_swapped rfl 52 rfl (fun hc => ?_) (fun hc => ?_)
      · replace h := of_pos hc h
        refine Z_blk k_X11_swapped 5 (pc' := 18) (lo' := [some (vR 0 21 0), some (vI (o_add a1 0)), some (vI (o_add a2 1))]) (st' := []) (M1 := M) rfl ?_
        refine Z_mask [true, true, true] (lo0 := [some (vR 0 21 0), some (vI (o_add a1 0)), some (vI (o_add a2 1))]) rfl ?_
        exact ih (o_add a1 0) (o_add a2 1) M _ _ h
      · replace h := of_neg hc h
        refine Z_blk k_X11_swapped 3 (pc' := 43) (lo' := [some (vR 0 21 0), some (vI a1), some (vI a2)]) (st' := [vI a2, vR 11 0 6, vI a1]) (M1 := M) rfl ?_
        refine Z_one k_X11_swapped rfl (pc' := 44) (lo' := [some (vR 0 21 0), some (vI a1), some (vI a2)]) (st' := [vI (M 11 (Int.toNat a2)), vI a1]) (M1 := M) (if_pos hc1) ?_
        refine Z_blk k_X11_swapped 1 (pc' := 45) (lo' := [some (vR 0 21 0), some (vI a1), some (vI a2)]) (st' := [vI a2, vI (M 11 (Int.toNat a2)), vI a1]) (M1 := M) rfl ?_
        refine Z_icmp k_X11_swapped rfl 52 rfl (fun hc => ?_) (fun hc => ?_)
        · replace h := of_pos hc h
          refine Z_blk k_X11_swapped 5 (pc' := 18) (lo' := [some (vR 0 21 0), some (vI (o_add a1 0)), some (vI (o_add a2 1))]) (st' := []) (M1 := M) rfl ?_
          refine Z_mask [true, true, true] (lo0 := [some (vR 0 21 0), some (vI (o_add a1 0)), some (vI (o_add a2 1))]) rfl ?_
          exact ih (o_add a1 0) (o_add a2 1) M _ _ h
        · replace h := of_neg hc h
          refine Z_blk k_X11_swapped 6 (pc' := 18) (lo' := [some (vR 0 21 0), some (vI (o_add a1 1)), some (vI (o_add a2 1))]) (st' := []) (M1 := M) rfl ?_
          refine Z_mask [true, true, true] (lo0 := [some (vR 0 21 0), some (vI (o_add a1 1)), some (vI (o_add a2 1))]) rfl ?_
          exact ih (o_add a1 1) (o_add a2 1) M _ _ h
def f_X11_swapped (M : AM) : Option (Int × AM) := zlet (am_upd M 0 1 0) fun M1 => zlet (am_upd M1 0 0 0) fun M2 => (f_X11_laysPairs M2).bind fun x3 => f_X11_swapped_18 zB 0 0 x3
theorem e_X11_swapped {Y : List (Nat × Nat)} (d : Nat) (M : AM) (x : Int) (N : AM) (h : f_X11_swapped M = some (x, N)) : Ev Y (d + 5) m_X11_swapped 0 [some (vR 0 21 0), none, none] [] M (some (vI x)) N := by
  unfold f_X11_swapped at h
  obtain ⟨M1, eM1, h⟩ := of_zlet h
  refine Z_blk k_X11_swapped 3 (pc' := 5) (lo' := [some (vR 0 21 0), none, none]) (st' := []) (M1 := M1) (by rw [eM1]; rfl) ?_
  obtain ⟨M2, eM2, h⟩ := of_zlet h
  refine Z_blk k_X11_swapped 3 (pc' := 10) (lo' := [some (vR 0 21 0), none, none]) (st' := []) (M1 := M2) (by rw [eM2]; rfl) ?_
  refine Z_blk k_X11_swapped 1 (pc' := 11) (lo' := [some (vR 0 21 0), none, none]) (st' := [vR 0 21 0]) (M1 := M2) rfl ?_
  obtain ⟨x3, hx3, h⟩ := Option.bind_eq_some_iff.mp h
  refine Z_callV8 k_X11_swapped k_X11_laysPairs rfl rfl (l_11_427) (ci := 11) rfl [] [] rfl rfl (Nat.le_of_ble_eq_true rfl) (Nat.le_of_ble_eq_true rfl) (e_X11_laysPairs (d + 0) M2 _ hx3) ?_
  refine Z_blk k_X11_swapped 4 (pc' := 18) (lo' := [some (vR 0 21 0), some (vI 0), some (vI 0)]) (st' := []) (M1 := x3) rfl ?_
  refine Z_mask [true, true, true] (lo0 := [some (vR 0 21 0), some (vI 0), some (vI 0)]) rfl ?_
  exact e_X11_swapped_18 d zB 0 0 x3 _ _ h
