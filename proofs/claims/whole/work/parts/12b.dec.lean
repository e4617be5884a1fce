theorem l_5_83 : zhas 3095 (Jvm.Cond.methodLink "BellPullHouse$Tokens" 83 yX5_scanWord) = true := by decide +kernel
theorem l_5_89 : zhas 3102 (Jvm.Cond.methodLink "BellPullHouse$Tokens" 89 yX5_scanNumber) = true := by decide +kernel
def f_X5_advance_182 (s0 : Int) (M : AM) : Option (AM) := if s0 = 0 then (zlet (am_upd M 20 0 4) fun M1 => zlet (am_upd M1 20 11 (o_add (M1 20 11) 1)) fun M2 => some M2) else (zlet (am_upd M 20 0 3) fun M3 => zlet (am_upd M3 20 11 (o_add (M3 20 11) 1)) fun M4 => some M4)
theorem e_X5_advance_182 {Y : List (Nat × Nat)} (d : Nat) (s0 : Int) (M : AM) (N : AM) (h : f_X5_advance_182 s0 M = some N) : Ev Y (d + 2) m_X5_advance 182 [some (vR 20 15 0), none] [vI s0] M none N := by
  unfold f_X5_advance_182 at h
  refine Z_blk k_X5_advance 3 (pc' := 185) (lo' := [some (vR 20 15 0), some (vI s0)]) (st' := [vI s0, vR 20 15 0]) (M1 := M) rfl ?_
  refine Z_if k_X5_advance rfl 192 rfl (fun hc => ?_) (fun hc => ?_)
  · replace h := of_pos hc h
    obtain ⟨M1, eM1, h⟩ := of_zlet h
    refine Z_blk k_X5_advance 2 (pc' := 196) (lo' := [some (vR 20 15 0), some (vI s0)]) (st' := []) (M1 := M1) (by rw [eM1]; rfl) ?_
    obtain ⟨M2, eM2, h⟩ := of_zlet h
    refine Z_blk k_X5_advance 6 (pc' := 206) (lo' := [some (vR 20 15 0), some (vI s0)]) (st' := []) (M1 := M2) (by rw [eM2]; rfl) ?_
    cases h
    exact Z_ret ⟨rfl, _, rfl⟩ rfl
  · replace h := of_neg hc h
    obtain ⟨M3, eM3, h⟩ := of_zlet h
    refine Z_blk k_X5_advance 3 (pc' := 196) (lo' := [some (vR 20 15 0), some (vI s0)]) (st' := []) (M1 := M3) (by rw [eM3]; rfl) ?_
    obtain ⟨M4, eM4, h⟩ := of_zlet h
    refine Z_blk k_X5_advance 6 (pc' := 206) (lo' := [some (vR 20 15 0), some (vI s0)]) (st' := []) (M1 := M4) (by rw [eM4]; rfl) ?_
    cases h
    exact Z_ret ⟨rfl, _, rfl⟩ rfl
def f_X5_advance_52 (M : AM) : Option (AM) := zlet (am_upd M 20 1 (M 20 11)) fun M1 => zlet (am_upd M1 20 3 (-1)) fun M2 => if M2 20 11 < M2 20 10 then (if 0 ≤ M2 20 11 ∧ M2 20 11 < 900 then ((f_X5_isLetter (M2 21 (Int.toNat (M2 20 11))) M2).bind fun x4 => if x4.1 = 0 then (if 0 ≤ x4.2 20 11 ∧ x4.2 20 11 < 900 then ((f_X5_isDigit (x4.2 21 (Int.toNat (x4.2 20 11))) x4.2).bind fun x6 => if x6.1 = 0 then (if 0 ≤ x6.2 20 11 ∧ x6.2 20 11 < 900 then (zlet (am_upd x6.2 20 4 (x6.2 21 (Int.toNat (x6.2 20 11)))) fun M8 => if M8 20 4 = 59 then f_X5_advance_182 1 M8 else (if M8 20 4 = 60 then f_X5_advance_182 1 M8 else (if M8 20 4 = 62 then f_X5_advance_182 1 M8 else (if ¬ M8 20 4 = 61 then f_X5_advance_182 0 M8 else f_X5_advance_182 1 M8)))) else none) else ((f_X5_scanNumber x6.2).bind fun x9 => some x9)) else none) else ((f_X5_scanWord x4.2).bind fun x10 => some x10)) else none) else (zlet (am_upd M2 20 0 0) fun M11 => some M11)
theorem e_X5_advance_52 {Y : List (Nat × Nat)} (d : Nat) (M : AM) (N : AM) (h : f_X5_advance_52 M = some N) : Ev Y (d + 2) m_X5_advance 52 [some (vR 20 15 0), none] [] M none N := by
  unfold f_X5_advance_52 at h
  obtain ⟨M1, eM1, h⟩ := of_zlet h
  refine Z_blk k_X5_advance 4 (pc' := 60) (lo' := [some (vR 20 15 0), none]) (st' := []) (M1 := M1) (by rw [eM1]; rfl) ?_
  obtain ⟨M2, eM2, h⟩ := of_zlet h
  refine Z_blk k_X5_advance 3 (pc' := 65) (lo' := [some (vR 20 15 0), none]) (st' := []) (M1 := M2) (by rw [eM2]; rfl) ?_
  refine Z_blk k_X5_advance 4 (pc' := 73) (lo' := [some (vR 20 15 0), none]) (st' := [vI (M2 20 10), vI (M2 20 11)]) (M1 := M2) rfl ?_
  refine Z_icmp k_X5_advance rfl 84 rfl (fun hc => ?_) (fun hc => ?_)
  · replace h := of_pos hc h
    refine Z_blk k_X5_advance 4 (pc' := 92) (lo' := [some (vR 20 15 0), none]) (st' := [vI (M2 20 11), vR 21 2 900]) (M1 := M2) rfl ?_
    obtain ⟨hc3, h⟩ := of_grd h
    refine Z_one k_X5_advance rfl (pc' := 93) (lo' := [some (vR 20 15 0), none]) (st' := [vI (M2 21 (Int.toNat (M2 20 11)))]) (M1 := M2) (if_pos hc3) ?_
    obtain ⟨x4, hx4, h⟩ := Option.bind_eq_some_iff.mp h
    refine Z_callS8 k_X5_advance k_X5_isLetter rfl rfl (l_5_79) [vI (M2 21 (Int.toNat (M2 20 11)))] [] rfl rfl (Nat.le_of_ble_eq_true rfl) (Nat.le_of_ble_eq_true rfl) (e_X5_isLetter (d + 1) (M2 21 (Int.toNat (M2 20 11))) M2 _ _ hx4) ?_
    refine Z_if k_X5_advance rfl 106 rfl (fun hc => ?_) (fun hc => ?_)
    · replace h := of_pos hc h
      refine Z_blk k_X5_advance 4 (pc' := 114) (lo' := [some (vR 20 15 0), none]) (st' := [vI (x4.2 20 11), vR 21 2 900]) (M1 := x4.2) rfl ?_
      obtain ⟨hc5, h⟩ := of_grd h
      refine Z_one k_X5_advance rfl (pc' := 115) (lo' := [some (vR 20 15 0), none]) (st' := [vI (x4.2 21 (Int.toNat (x4.2 20 11)))]) (M1 := x4.2) (if_pos hc5) ?_
      obtain ⟨x6, hx6, h⟩ := Option.bind_eq_some_iff.mp h
      refine Z_callS8 k_X5_advance k_X5_isDigit rfl rfl (l_5_86) [vI (x4.2 21 (Int.toNat (x4.2 20 11)))] [] rfl rfl (Nat.le_of_ble_eq_true rfl) (Nat.le_of_ble_eq_true rfl) (e_X5_isDigit (d + 1) (x4.2 21 (Int.toNat (x4.2 20 11))) x4.2 _ _ hx6) ?_
      refine Z_if k_X5_advance rfl 128 rfl (fun hc => ?_) (fun hc => ?_)
      · replace h := of_pos hc h
        refine Z_blk k_X5_advance 5 (pc' := 137) (lo' := [some (vR 20 15 0), none]) (st' := [vI (x6.2 20 11), vR 21 2 900, vR 20 15 0]) (M1 := x6.2) rfl ?_
        obtain ⟨hc7, h⟩ := of_grd h
        refine Z_one k_X5_advance rfl (pc' := 138) (lo' := [some (vR 20 15 0), none]) (st' := [vI (x6.2 21 (Int.toNat (x6.2 20 11))), vR 20 15 0]) (M1 := x6.2) (if_pos hc7) ?_
        obtain ⟨M8, eM8, h⟩ := of_zlet h
        refine Z_blk k_X5_advance 1 (pc' := 141) (lo' := [some (vR 20 15 0), none]) (st' := []) (M1 := M8) (by rw [eM8]; rfl) ?_
        refine Z_blk k_X5_advance 3 (pc' := 147) (lo' := [some (vR 20 15 0), none]) (st' := [vI 59, vI (M8 20 4)]) (M1 := M8) rfl ?_
        refine Z_icmp k_X5_advance rfl 177 rfl (fun hc => ?_) (fun hc => ?_)
        · replace h := of_pos hc h
          refine Z_blk k_X5_advance 2 (pc' := 182) (lo' := [some (vR 20 15 0), none]) (st' := [vI 1]) (M1 := M8) rfl ?_
          refine Z_mask [true, false] (lo0 := [some (vR 20 15 0), none]) rfl ?_
          exact e_X5_advance_182 d 1 M8 _ h
        · replace h := of_neg hc h
          refine Z_blk k_X5_advance 3 (pc' := 156) (lo' := [some (vR 20 15 0), none]) (st' := [vI 60, vI (M8 20 4)]) (M1 := M8) rfl ?_
          refine Z_icmp k_X5_advance rfl 177 rfl (fun hc => ?_) (fun hc => ?_)
          · replace h := of_pos hc h
            refine Z_blk k_X5_advance 2 (pc' := 182) (lo' := [some (vR 20 15 0), none]) (st' := [vI 1]) (M1 := M8) rfl ?_
            refine Z_mask [true, false] (lo0 := [some (vR 20 15 0), none]) rfl ?_
            exact e_X5_advance_182 d 1 M8 _ h
          · replace h := of_neg hc h
            refine Z_blk k_X5_advance 3 (pc' := 165) (lo' := [some (vR 20 15 0), none]) (st' := [vI 62, vI (M8 20 4)]) (M1 := M8) rfl ?_
            refine Z_icmp k_X5_advance rfl 177 rfl (fun hc => ?_) (fun hc => ?_)
            · replace h := of_pos hc h
              refine Z_blk k_X5_advance 2 (pc' := 182) (lo' := [some (vR 20 15 0), none]) (st' := [vI 1]) (M1 := M8) rfl ?_
              refine Z_mask [true, false] (lo0 := [some (vR 20 15 0), none]) rfl ?_
              exact e_X5_advance_182 d 1 M8 _ h
            · replace h := of_neg hc h
              refine Z_blk k_X5_advance 3 (pc' := 174) (lo' := [some (vR 20 15 0), none]) (st' := [vI 61, vI (M8 20 4)]) (M1 := M8) rfl ?_
              refine Z_icmp k_X5_advance rfl 181 rfl (fun hc => ?_) (fun hc => ?_)
              · replace h := of_pos hc h
                refine Z_blk k_X5_advance 1 (pc' := 182) (lo' := [some (vR 20 15 0), none]) (st' := [vI 0]) (M1 := M8) rfl ?_
                refine Z_mask [true, false] (lo0 := [some (vR 20 15 0), none]) rfl ?_
                exact e_X5_advance_182 d 0 M8 _ h
              · replace h := of_neg hc h
                refine Z_blk k_X5_advance 2 (pc' := 182) (lo' := [some (vR 20 15 0), none]) (st' := [vI 1]) (M1 := M8) rfl ?_
                refine Z_mask [true, false] (lo0 := [some (vR 20 15 0), none]) rfl ?_
                exact e_X5_advance_182 d 1 M8 _ h
      · replace h := of_neg hc h
        refine Z_blk k_X5_advance 1 (pc' := 122) (lo' := [some (vR 20 15 0), none]) (st' := [vR 20 15 0]) (M1 := x6.2) rfl ?_
        obtain ⟨x9, hx9, h⟩ := Option.bind_eq_some_iff.mp h
        refine Z_callV8 k_X5_advance k_X5_scanNumber rfl rfl (l_5_89) (ci := 5) rfl [] [] rfl rfl (Nat.le_of_ble_eq_true rfl) (Nat.le_of_ble_eq_true rfl) (e_X5_scanNumber (d + 0) x6.2 _ hx9) ?_
        refine Z_blk k_X5_advance 1 (pc' := 206) (lo' := [some (vR 20 15 0), none]) (st' := []) (M1 := x9) rfl ?_
        cases h
        exact Z_ret ⟨rfl, _, rfl⟩ rfl
    · replace h := of_neg hc h
      refine Z_blk k_X5_advance 1 (pc' := 100) (lo' := [some (vR 20 15 0), none]) (st' := [vR 20 15 0]) (M1 := x4.2) rfl ?_
      obtain ⟨x10, hx10, h⟩ := Option.bind_eq_some_iff.mp h
      refine Z_callV8 k_X5_advance k_X5_scanWord rfl rfl (l_5_83) (ci := 5) rfl [] [] rfl rfl (Nat.le_of_ble_eq_true rfl) (Nat.le_of_ble_eq_true rfl) (e_X5_scanWord (d + 0) x4.2 _ hx10) ?_
      refine Z_blk k_X5_advance 1 (pc' := 206) (lo' := [some (vR 20 15 0), none]) (st' := []) (M1 := x10) rfl ?_
      cases h
      exact Z_ret ⟨rfl, _, rfl⟩ rfl
  · replace h := of_neg hc h
    obtain ⟨M11, eM11, h⟩ := of_zlet h
    refine Z_blk k_X5_advance 3 (pc' := 81) (lo' := [some (vR 20 15 0), none]) (st' := []) (M1 := M11) (by rw [eM11]; rfl) ?_
    refine Z_blk k_X5_advance 1 (pc' := 206) (lo' := [some (vR 20 15 0), none]) (st' := []) (M1 := M11) rfl ?_
    cases h
    exact Z_ret ⟨rfl, _, rfl⟩ rfl
def f_X5_advance_0 : Nat → AM → Option (AM)
  | 0, _ => none
  | n + 1, M => if M 20 10 ≤ M 20 11 then f_X5_advance_52 M else (if 0 ≤ M 20 11 ∧ M 20 11 < 900 then (if M 21 (Int.toNat (M 20 11)) = 32 then (zlet (am_upd M 20 11 (o_add (M 20 11) 1)) fun M2 => f_X5_advance_0 n M2) else (if ¬ M 21 (Int.toNat (M 20 11)) = 10 then f_X5_advance_52 M else (zlet (am_upd M 20 11 (o_add (M 20 11) 1)) fun M3 => f_X5_advance_0 n M3))) else none)
theorem e_X5_advance_0 {Y : List (Nat × Nat)} (d : Nat) : ∀ (n : Nat) (M : AM) (N : AM), f_X5_advance_0 n M = some N → Ev Y (d + 2) m_X5_advance 0 [some (vR 20 15 0), none] [] M none N := by
  intro n
  induction n with
  | zero => intro M N h; cases h
  | succ n ih =>
    intro M N h
    simp only [f_X5_advance_0] at h
    refine Z_blk k_X5_advance 4 (pc' := 8) (lo' := [some (vR 20 15 0), none]) (st' := [vI (M 20 10), vI (M 20 11)]) (M1 := M) rfl ?_
    refine Z_icmp k_X5_advance rfl 52 rfl (fun hc => ?_) (fun hc => ?_)
    · replace h := of_pos hc h
      refine Z_mask [true, false] (lo0 := [some (vR 20 15 0), none]) rfl ?_
      exact e_X5_advance_52 d M _ h
    · replace h := of_neg hc h
      refine Z_blk k_X5_advance 4 (pc' := 19) (lo' := [some (vR 20 15 0), none]) (st' := [vI (M 20 11), vR 21 2 900]) (M1 := M) rfl ?_
      obtain ⟨hc1, h⟩ := of_grd h
      refine Z_one k_X5_advance rfl (pc' := 20) (lo' := [some (vR 20 15 0), none]) (st' := [vI (M 21 (Int.toNat (M 20 11)))]) (M1 := M) (if_pos hc1) ?_
      refine Z_blk k_X5_advance 1 (pc' := 22) (lo' := [some (vR 20 15 0), none]) (st' := [vI 32, vI (M 21 (Int.toNat (M 20 11)))]) (M1 := M) rfl ?_
      refine Z_icmp k_X5_advance rfl 39 rfl (fun hc => ?_) (fun hc => ?_)
      · replace h := of_pos hc h
        obtain ⟨M2, eM2, h⟩ := of_zlet h
        refine Z_blk k_X5_advance 6 (pc' := 49) (lo' := [some (vR 20 15 0), none]) (st' := []) (M1 := M2) (by rw [eM2]; rfl) ?_
        refine Z_blk k_X5_advance 1 (pc' := 0) (lo' := [some (vR 20 15 0), none]) (st' := []) (M1 := M2) rfl ?_
        refine Z_mask [true, false] (lo0 := [some (vR 20 15 0), none]) rfl ?_
        exact ih M2 _ h
      · replace h := of_neg hc h
        refine Z_blk k_X5_advance 4 (pc' := 33) (lo' := [some (vR 20 15 0), none]) (st' := [vI (M 20 11), vR 21 2 900]) (M1 := M) rfl ?_
        refine Z_one k_X5_advance rfl (pc' := 34) (lo' := [some (vR 20 15 0), none]) (st' := [vI (M 21 (Int.toNat (M 20 11)))]) (M1 := M) (if_pos hc1) ?_
        refine Z_blk k_X5_advance 1 (pc' := 36) (lo' := [some (vR 20 15 0), none]) (st' := [vI 10, vI (M 21 (Int.toNat (M 20 11)))]) (M1 := M) rfl ?_
        refine Z_icmp k_X5_advance rfl 52 rfl (fun hc => ?_) (fun hc => ?_)
        · replace h := of_pos hc h
          refine Z_mask [true, false] (lo0 := [some (vR 20 15 0), none]) rfl ?_
          exact e_X5_advance_52 d M _ h
        · replace h := of_neg hc h
          obtain ⟨M3, eM3, h⟩ := of_zlet h
          refine Z_blk k_X5_advance 6 (pc' := 49) (lo' := [some (vR 20 15 0), none]) (st' := []) (M1 := M3) (by rw [eM3]; rfl) ?_
          refine Z_blk k_X5_advance 1 (pc' := 0) (lo' := [some (vR 20 15 0), none]) (st' := []) (M1 := M3) rfl ?_
          refine Z_mask [true, false] (lo0 := [some (vR 20 15 0), none]) rfl ?_
          exact ih M3 _ h
def f_X5_advance (M : AM) : Option (AM) := f_X5_advance_0 zB M
theorem e_X5_advance {Y : List (Nat × Nat)} (d : Nat) (M : AM) (N : AM) (h : f_X5_advance M = some N) : Ev Y (d + 2) m_X5_advance 0 [some (vR 20 15 0), none] [] M none N := by
  unfold f_X5_advance at h
  refine Z_mask [true, false] (lo0 := [some (vR 20 15 0), none]) rfl ?_
  exact e_X5_advance_0 d zB M _ h
def f_X5_isName (M : AM) : Option (Int × AM) := if ¬ M 20 0 = 1 then some (0, M) else (if ¬ M 20 3 = (-1) then some (0, M) else (if 8 < M 20 8 then some (0, M) else some (1, M)))
theorem e_X5_isName {Y : List (Nat × Nat)} (d : Nat) (M : AM) (x : Int) (N : AM) (h : f_X5_isName M = some (x, N)) : Ev Y (d + 0) m_X5_isName 0 [some (vR 20 15 0)] [] M (some (vI x)) N := by
  unfold f_X5_isName at h
  refine Z_blk k_X5_isName 3 (pc' := 5) (lo' := [some (vR 20 15 0)]) (st' := [vI 1, vI (M 20 0)]) (M1 := M) rfl ?_
  refine Z_icmp k_X5_isName rfl 29 rfl (fun hc => ?_) (fun hc => ?_)
  · replace h := of_pos hc h
    refine Z_blk k_X5_isName 1 (pc' := 30) (lo' := [some (vR 20 15 0)]) (st' := [vI 0]) (M1 := M) rfl ?_
    cases h
    exact Z_ret ⟨Or.inr ⟨rfl, Or.inl rfl⟩, _, rfl⟩ rfl
  · replace h := of_neg hc h
    refine Z_blk k_X5_isName 3 (pc' := 13) (lo' := [some (vR 20 15 0)]) (st' := [vI (-1), vI (M 20 3)]) (M1 := M) rfl ?_
    refine Z_icmp k_X5_isName rfl 29 rfl (fun hc => ?_) (fun hc => ?_)
    · replace h := of_pos hc h
      refine Z_blk k_X5_isName 1 (pc' := 30) (lo' := [some (vR 20 15 0)]) (st' := [vI 0]) (M1 := M) rfl ?_
      cases h
      exact Z_ret ⟨Or.inr ⟨rfl, Or.inl rfl⟩, _, rfl⟩ rfl
    · replace h := of_neg hc h
      refine Z_blk k_X5_isName 3 (pc' := 22) (lo' := [some (vR 20 15 0)]) (st' := [vI 8, vI (M 20 8)]) (M1 := M) rfl ?_
      refine Z_icmp k_X5_isName rfl 29 rfl (fun hc => ?_) (fun hc => ?_)
      · replace h := of_pos hc h
        refine Z_blk k_X5_isName 1 (pc' := 30) (lo' := [some (vR 20 15 0)]) (st' := [vI 0]) (M1 := M) rfl ?_
        cases h
        exact Z_ret ⟨Or.inr ⟨rfl, Or.inl rfl⟩, _, rfl⟩ rfl
      · replace h := of_neg hc h
        refine Z_blk k_X5_isName 2 (pc' := 30) (lo' := [some (vR 20 15 0)]) (st' := [vI 1]) (M1 := M) rfl ?_
        cases h
        exact Z_ret ⟨Or.inr ⟨rfl, Or.inr rfl⟩, _, rfl⟩ rfl
def f_X5_refuse_14 (s1 : Int) (M : AM) : Option (Int × AM) := zlet (am_upd M 20 5 s1) fun M1 => if ¬ M1 20 0 = 0 then (zlet (am_upd M1 20 6 (M1 20 1)) fun M2 => some (0, M2)) else (zlet (am_upd M1 20 6 (M1 20 10)) fun M3 => some (0, M3))
theorem e_X5_refuse_14 {Y : List (Nat × Nat)} (d : Nat) (s1 : Int) (M : AM) (x : Int) (N : AM) (h : f_X5_refuse_14 s1 M = some (x, N)) : Ev Y (d + 0) m_X5_refuse 14 [some (vR 20 15 0), none] [vI s1, vR 20 15 0] M (some (vI x)) N := by
  unfold f_X5_refuse_14 at h
  obtain ⟨M1, eM1, h⟩ := of_zlet h
  refine Z_blk k_X5_refuse 1 (pc' := 17) (lo' := [some (vR 20 15 0), none]) (st' := []) (M1 := M1) (by rw [eM1]; rfl) ?_
  refine Z_blk k_X5_refuse 3 (pc' := 22) (lo' := [some (vR 20 15 0), none]) (st' := [vI (M1 20 0), vR 20 15 0]) (M1 := M1) rfl ?_
  refine Z_if k_X5_refuse rfl 32 rfl (fun hc => ?_) (fun hc => ?_)
  · replace h := of_pos hc h
    obtain ⟨M2, eM2, h⟩ := of_zlet h
    refine Z_blk k_X5_refuse 3 (pc' := 39) (lo' := [some (vR 20 15 0), none]) (st' := []) (M1 := M2) (by rw [eM2]; rfl) ?_
    refine Z_blk k_X5_refuse 1 (pc' := 40) (lo' := [some (vR 20 15 0), none]) (st' := [vI 0]) (M1 := M2) rfl ?_
    cases h
    exact Z_ret ⟨Or.inr ⟨rfl, Or.inl rfl⟩, _, rfl⟩ rfl
  · replace h := of_neg hc h
    obtain ⟨M3, eM3, h⟩ := of_zlet h
    refine Z_blk k_X5_refuse 4 (pc' := 39) (lo' := [some (vR 20 15 0), none]) (st' := []) (M1 := M3) (by rw [eM3]; rfl) ?_
    refine Z_blk k_X5_refuse 1 (pc' := 40) (lo' := [some (vR 20 15 0), none]) (st' := [vI 0]) (M1 := M3) rfl ?_
    cases h
    exact Z_ret ⟨Or.inr ⟨rfl, Or.inl rfl⟩, _, rfl⟩ rfl
def f_X5_refuse (a1 : Int) (M : AM) : Option (Int × AM) := if ¬ M 20 0 = 4 then f_X5_refuse_14 a1 M else f_X5_refuse_14 1 M
theorem e_X5_refuse {Y : List (Nat × Nat)} (d : Nat) (a1 : Int) (M : AM) (x : Int) (N : AM) (h : f_X5_refuse a1 M = some (x, N)) : Ev Y (d + 0) m_X5_refuse 0 [some (vR 20 15 0), some (vI a1)] [] M (some (vI x)) N := by
  unfold f_X5_refuse at h
  refine Z_blk k_X5_refuse 4 (pc' := 6) (lo' := [some (vR 20 15 0), some (vI a1)]) (st' := [vI 4, vI (M 20 0), vR 20 15 0]) (M1 := M) rfl ?_
  refine Z_icmp k_X5_refuse rfl 13 rfl (fun hc => ?_) (fun hc => ?_)
  · replace h := of_pos hc h
    refine Z_blk k_X5_refuse 1 (pc' := 14) (lo' := [some (vR 20 15 0), some (vI a1)]) (st' := [vI a1, vR 20 15 0]) (M1 := M) rfl ?_
    refine Z_mask [true, false] (lo0 := [some (vR 20 15 0), none]) rfl ?_
    exact e_X5_refuse_14 d a1 M _ _ h
  · replace h := of_neg hc h
    refine Z_blk k_X5_refuse 2 (pc' := 14) (lo' := [some (vR 20 15 0), some (vI a1)]) (st' := [vI 1, vR 20 15 0]) (M1 := M) rfl ?_
    refine Z_mask [true, false] (lo0 := [some (vR 20 15 0), none]) rfl ?_
    exact e_X5_refuse_14 d 1 M _ _ h
theorem l_2_58 : zhas 3117 (Jvm.Cond.methodLink "BellPullHouse$HouseReader" 58 yX5_refuse) = true := by decide +kernel
theorem l_2_62 : zhas 3121 (Jvm.Cond.methodLink "BellPullHouse$HouseReader" 62 yX5_advance) = true := by decide +kernel
theorem l_2_96 : zhas 3144 (Jvm.Cond.methodLink "BellPullHouse$HouseReader" 96 yX5_isName) = true := by decide +kernel
theorem l_2_103 : zhas 3148 (Jvm.Cond.methodLink "BellPullHouse$HouseReader" 103 yX1_isTaken) = true := by decide +kernel
def f_X2_takeNewName_30 (M : AM) : Option (Int × AM) := (f_X5_refuse 3 M).bind fun x1 => if x1.1 = 0 ∨ x1.1 = 1 then some (x1.1, x1.2) else none
theorem e_X2_takeNewName_30 {Y : List (Nat × Nat)} (d : Nat) (M : AM) (x : Int) (N : AM) (h : f_X2_takeNewName_30 M = some (x, N)) : Ev Y (d + 3) m_X2_takeNewName 30 [some (vR 20 15 0), none, none] [] M (some (vI x)) N := by
  unfold f_X2_takeNewName_30 at h
  refine Z_blk k_X2_takeNewName 2 (pc' := 32) (lo' := [some (vR 20 15 0), none, none]) (st' := [vI 3, vR 20 15 0]) (M1 := M) rfl ?_
  obtain ⟨x1, hx1, h⟩ := Option.bind_eq_some_iff.mp h
  refine Z_callV8 k_X2_takeNewName k_X5_refuse rfl rfl (l_2_58) (ci := 5) rfl [vI 3] [] rfl rfl (Nat.le_of_ble_eq_true rfl) (Nat.le_of_ble_eq_true rfl) (e_X5_refuse (d + 2) 3 M _ _ hx1) ?_
  obtain ⟨hc2, h⟩ := of_grd h
  cases h
  exact Z_ret ⟨Or.inr ⟨rfl, hc2⟩, _, rfl⟩ rfl
def f_X2_takeNewName (a2 : Int) (M : AM) : Option (Int × AM) := (f_X5_isName M).bind fun x1 => if ¬ x1.1 = 0 then ((f_X1_isTaken 34 (x1.2 20 2) x1.2).bind fun x2 => if ¬ x2.1 = 0 then f_X2_takeNewName_30 x2.2 else (if a2 < 24 then (if 0 ≤ a2 ∧ a2 < 24 then (zlet (am_upd x2.2 43 (Int.toNat a2) (x2.2 20 2)) fun M4 => (f_X5_advance M4).bind fun x5 => some (1, x5)) else none) else f_X2_takeNewName_30 x2.2)) else ((f_X5_refuse 2 x1.2).bind fun x6 => if x6.1 = 0 ∨ x6.1 = 1 then some (x6.1, x6.2) else none)
theorem e_X2_takeNewName {Y : List (Nat × Nat)} (d : Nat) (a2 : Int) (M : AM) (x : Int) (N : AM) (h : f_X2_takeNewName a2 M = some (x, N)) : Ev Y (d + 3) m_X2_takeNewName 0 [some (vR 20 15 0), some (vR 34 11 0), some (vI a2)] [] M (some (vI x)) N := by
  unfold f_X2_takeNewName at h
  refine Z_blk k_X2_takeNewName 1 (pc' := 1) (lo' := [some (vR 20 15 0), some (vR 34 11 0), some (vI a2)]) (st' := [vR 20 15 0]) (M1 := M) rfl ?_
  obtain ⟨x1, hx1, h⟩ := Option.bind_eq_some_iff.mp h
  refine Z_callV8 k_X2_takeNewName k_X5_isName rfl rfl (l_2_96) (ci := 5) rfl [] [] rfl rfl (Nat.le_of_ble_eq_true rfl) (Nat.le_of_ble_eq_true rfl) (e_X5_isName (d + 2) M _ _ hx1) ?_
  refine Z_if k_X2_takeNewName rfl 13 rfl (fun hc => ?_) (fun hc => ?_)
  · replace h := of_pos hc h
    refine Z_blk k_X2_takeNewName 3 (pc' := 18) (lo' := [some (vR 20 15 0), some (vR 34 11 0), some (vI a2)]) (st' := [vL (x1.2 20 2), vR 34 11 0]) (M1 := x1.2) rfl ?_
    obtain ⟨x2, hx2, h⟩ := Option.bind_eq_some_iff.mp h
    refine Z_callV8 k_X2_takeNewName k_X1_isTaken rfl rfl (l_2_103) (ci := 1) rfl [vL (x1.2 20 2)] [] rfl rfl (Nat.le_of_ble_eq_true rfl) (Nat.le_of_ble_eq_true rfl) (e_X1_isTaken (d + 1) 34 (x1.2 20 2) x1.2 _ _ hx2) ?_
    refine Z_if k_X2_takeNewName rfl 30 rfl (fun hc => ?_) (fun hc => ?_)
    · replace h := of_pos hc h
      refine Z_mask [true, false, false] (lo0 := [some (vR 20 15 0), none, none]) rfl ?_
      exact e_X2_takeNewName_30 d x2.2 _ _ h
    · replace h := of_neg hc h
      refine Z_blk k_X2_takeNewName 2 (pc' := 27) (lo' := [some (vR 20 15 0), some (vR 34 11 0), some (vI a2)]) (st' := [vI 24, vI a2]) (M1 := x2.2) rfl ?_
      refine Z_icmp k_X2_takeNewName rfl 36 rfl (fun hc => ?_) (fun hc => ?_)
      · replace h := of_pos hc h
        refine Z_blk k_X2_takeNewName 5 (pc' := 45) (lo' := [some (vR 20 15 0), some (vR 34 11 0), some (vI a2)]) (st' := [vL (x2.2 20 2), vI a2, vR 43 1 24]) (M1 := x2.2) rfl ?_
        obtain ⟨hc3, h⟩ := of_grd h
        obtain ⟨M4, eM4, h⟩ := of_zlet h
        refine Z_one k_X2_takeNewName rfl (pc' := 46) (lo' := [some (vR 20 15 0), some (vR 34 11 0), some (vI a2)]) (st' := []) (M1 := M4) (by rw [eM4]; exact if_pos hc3) ?_
        refine Z_blk k_X2_takeNewName 1 (pc' := 47) (lo' := [some (vR 20 15 0), some (vR 34 11 0), some (vI a2)]) (st' := [vR 20 15 0]) (M1 := M4) rfl ?_
        obtain ⟨x5, hx5, h⟩ := Option.bind_eq_some_iff.mp h
        refine Z_callV8 k_X2_takeNewName k_X5_advance rfl rfl (l_2_62) (ci := 5) rfl [] [] rfl rfl (Nat.le_of_ble_eq_true rfl) (Nat.le_of_ble_eq_true rfl) (e_X5_advance (d + 0) M4 _ hx5) ?_
        refine Z_blk k_X2_takeNewName 1 (pc' := 51) (lo' := [some (vR 20 15 0), some (vR 34 11 0), some (vI a2)]) (st' := [vI 1]) (M1 := x5) rfl ?_
        cases h
        exact Z_ret ⟨Or.inr ⟨rfl, Or.inr rfl⟩, _, rfl⟩ rfl
      · replace h := of_neg hc h
        refine Z_mask [true, false, false] (lo0 := [some (vR 20 15 0), none, none]) rfl ?_
        exact e_X2_takeNewName_30 d x2.2 _ _ h
  · replace h := of_neg hc h
    refine Z_blk k_X2_takeNewName 2 (pc' := 9) (lo' := [some (vR 20 15 0), some (vR 34 11 0), some (vI a2)]) (st' := [vI 2, vR 20 15 0]) (M1 := x1.2) rfl ?_
    obtain ⟨x6, hx6, h⟩ := Option.bind_eq_some_iff.mp h
    refine Z_callV8 k_X2_takeNewName k_X5_refuse rfl rfl (l_2_58) (ci := 5) rfl [vI 2] [] rfl rfl (Nat.le_of_ble_eq_true rfl) (Nat.le_of_ble_eq_true rfl) (e_X5_refuse (d + 2) 2 x1.2 _ _ hx6) ?_
    obtain ⟨hc7, h⟩ := of_grd h
    cases h
    exact Z_ret ⟨Or.inr ⟨rfl, hc7⟩, _, rfl⟩ rfl
theorem l_2_111 : zhas 3166 (Jvm.Cond.methodLink "BellPullHouse$HouseReader" 111 yX1_findRoom) = true := by decide +kernel
def f_X2_takeRoom_38 (s1 : Int) (M : AM) : Option (Int × AM) := (f_X5_refuse s1 M).bind fun x1 => some ((-1), x1.2)
theorem e_X2_takeRoom_38 {Y : List (Nat × Nat)} (d : Nat) (s1 : Int) (M : AM) (x : Int) (N : AM) (h : f_X2_takeRoom_38 s1 M = some (x, N)) : Ev Y (d + 3) m_X2_takeRoom 38 [none, none, none, none] [vI s1, vR 20 15 0] M (some (vI x)) N := by
  unfold f_X2_takeRoom_38 at h
  obtain ⟨x1, hx1, h⟩ := Option.bind_eq_some_iff.mp h
  refine Z_callV8 k_X2_takeRoom k_X5_refuse rfl rfl (l_2_58) (ci := 5) rfl [vI s1] [] rfl rfl (Nat.le_of_ble_eq_true rfl) (Nat.le_of_ble_eq_true rfl) (e_X5_refuse (d + 2) s1 M _ _ hx1) ?_
  refine Z_blk k_X2_takeRoom 2 (pc' := 43) (lo' := [none, none, none, none]) (st' := [vI (-1)]) (M1 := x1.2) rfl ?_
  cases h
  exact Z_ret ⟨Or.inl rfl, _, rfl⟩ rfl
def f_X2_takeRoom_19 (a2 : Int) (s0 : Int) (M : AM) : Option (Int × AM) := if ¬ s0 = (-1) then (if ¬ s0 = a2 then ((f_X5_advance M).bind fun x1 => some (s0, x1)) else ((f_X5_refuse 5 M).bind fun x2 => some ((-1), x2.2))) else ((f_X5_isName M).bind fun x3 => if x3.1 = 0 then f_X2_takeRoom_38 2 x3.2 else f_X2_takeRoom_38 3 x3.2)
theorem e_X2_takeRoom_19 {Y : List (Nat × Nat)} (d : Nat) (a2 : Int) (s0 : Int) (M : AM) (x : Int) (N : AM) (h : f_X2_takeRoom_19 a2 s0 M = some (x, N)) : Ev Y (d + 3) m_X2_takeRoom 19 [some (vR 20 15 0), none, some (vI a2), none] [vI s0] M (some (vI x)) N := by
  unfold f_X2_takeRoom_19 at h
  refine Z_blk k_X2_takeRoom 3 (pc' := 22) (lo' := [some (vR 20 15 0), none, some (vI a2), some (vI s0)]) (st' := [vI (-1), vI s0]) (M1 := M) rfl ?_
  refine Z_icmp k_X2_takeRoom rfl 44 rfl (fun hc => ?_) (fun hc => ?_)
  · replace h := of_pos hc h
    refine Z_blk k_X2_takeRoom 2 (pc' := 46) (lo' := [some (vR 20 15 0), none, some (vI a2), some (vI s0)]) (st' := [vI a2, vI s0]) (M1 := M) rfl ?_
    refine Z_icmp k_X2_takeRoom rfl 57 rfl (fun hc => ?_) (fun hc => ?_)
    · replace h := of_pos hc h
      refine Z_blk k_X2_takeRoom 1 (pc' := 58) (lo' := [some (vR 20 15 0), none, some (vI a2), some (vI s0)]) (st' := [vR 20 15 0]) (M1 := M) rfl ?_
      obtain ⟨x1, hx1, h⟩ := Option.bind_eq_some_iff.mp h
      refine Z_callV8 k_X2_takeRoom k_X5_advance rfl rfl (l_2_62) (ci := 5) rfl [] [] rfl rfl (Nat.le_of_ble_eq_true rfl) (Nat.le_of_ble_eq_true rfl) (e_X5_advance (d + 0) M _ hx1) ?_
      refine Z_blk k_X2_takeRoom 1 (pc' := 62) (lo' := [some (vR 20 15 0), none, some (vI a2), some (vI s0)]) (st' := [vI s0]) (M1 := x1) rfl ?_
      cases h
      exact Z_ret ⟨Or.inl rfl, _, rfl⟩ rfl
    · replace h := of_neg hc h
      refine Z_blk k_X2_takeRoom 2 (pc' := 51) (lo' := [some (vR 20 15 0), none, some (vI a2), some (vI s0)]) (st' := [vI 5, vR 20 15 0]) (M1 := M) rfl ?_
      obtain ⟨x2, hx2, h⟩ := Option.bind_eq_some_iff.mp h
      refine Z_callV8 k_X2_takeRoom k_X5_refuse rfl rfl (l_2_58) (ci := 5) rfl [vI 5] [] rfl rfl (Nat.le_of_ble_eq_true rfl) (Nat.le_of_ble_eq_true rfl) (e_X5_refuse (d + 2) 5 M _ _ hx2) ?_
      refine Z_blk k_X2_takeRoom 2 (pc' := 56) (lo' := [some (vR 20 15 0), none, some (vI a2), some (vI s0)]) (st' := [vI (-1)]) (M1 := x2.2) rfl ?_
      cases h
      exact Z_ret ⟨Or.inl rfl, _, rfl⟩ rfl
  · replace h := of_neg hc h
    refine Z_blk k_X2_takeRoom 2 (pc' := 27) (lo' := [some (vR 20 15 0), none, some (vI a2), some (vI s0)]) (st' := [vR 20 15 0, vR 20 15 0]) (M1 := M) rfl ?_
    obtain ⟨x3, hx3, h⟩ := Option.bind_eq_some_iff.mp h
    refine Z_callV8 k_X2_takeRoom k_X5_isName rfl rfl (l_2_96) (ci := 5) rfl [] [vR 20 15 0] rfl rfl (Nat.le_of_ble_eq_true rfl) (Nat.le_of_ble_eq_true rfl) (e_X5_isName (d + 2) M _ _ hx3) ?_
    refine Z_if k_X2_takeRoom rfl 37 rfl (fun hc => ?_) (fun hc => ?_)
    · replace h := of_pos hc h
      refine Z_blk k_X2_takeRoom 1 (pc' := 38) (lo' := [some (vR 20 15 0), none, some (vI a2), some (vI s0)]) (st' := [vI 2, vR 20 15 0]) (M1 := x3.2) rfl ?_
      refine Z_mask [false, false, false, false] (lo0 := [none, none, none, none]) rfl ?_
      exact e_X2_takeRoom_38 d 2 x3.2 _ _ h
    · replace h := of_neg hc h
      refine Z_blk k_X2_takeRoom 2 (pc' := 38) (lo' := [some (vR 20 15 0), none, some (vI a2), some (vI s0)]) (st' := [vI 3, vR 20 15 0]) (M1 := x3.2) rfl ?_
      refine Z_mask [false, false, false, false] (lo0 := [none, none, none, none]) rfl ?_
      exact e_X2_takeRoom_38 d 3 x3.2 _ _ h
def f_X2_takeRoom (a2 : Int) (M : AM) : Option (Int × AM) := (f_X5_isName M).bind fun x1 => if x1.1 = 0 then f_X2_takeRoom_19 a2 (-1) x1.2 else ((f_X1_findRoom 34 (x1.2 20 2) x1.2).bind fun x2 => f_X2_takeRoom_19 a2 x2.1 x2.2)
theorem e_X2_takeRoom {Y : List (Nat × Nat)} (d : Nat) (a2 : Int) (M : AM) (x : Int) (N : AM) (h : f_X2_takeRoom a2 M = some (x, N)) : Ev Y (d + 3) m_X2_takeRoom 0 [some (vR 20 15 0), some (vR 34 11 0), some (vI a2), none] [] M (some (vI x)) N := by
  unfold f_X2_takeRoom at h
  refine Z_blk k_X2_takeRoom 1 (pc' := 1) (lo' := [some (vR 20 15 0), some (vR 34 11 0), some (vI a2), none]) (st' := [vR 20 15 0]) (M1 := M) rfl ?_
  obtain ⟨x1, hx1, h⟩ := Option.bind_eq_some_iff.mp h
  refine Z_callV8 k_X2_takeRoom k_X5_isName rfl rfl (l_2_96) (ci := 5) rfl [] [] rfl rfl (Nat.le_of_ble_eq_true rfl) (Nat.le_of_ble_eq_true rfl) (e_X5_isName (d + 2) M _ _ hx1) ?_
  refine Z_if k_X2_takeRoom rfl 18 rfl (fun hc => ?_) (fun hc => ?_)
  · replace h := of_pos hc h
    refine Z_blk k_X2_takeRoom 1 (pc' := 19) (lo' := [some (vR 20 15 0), some (vR 34 11 0), some (vI a2), none]) (st' := [vI (-1)]) (M1 := x1.2) rfl ?_
    refine Z_mask [true, false, true, false] (lo0 := [some (vR 20 15 0), none, some (vI a2), none]) rfl ?_
    exact e_X2_takeRoom_19 d a2 (-1) x1.2 _ _ h
  · replace h := of_neg hc h
    refine Z_blk k_X2_takeRoom 3 (pc' := 12) (lo' := [some (vR 20 15 0), some (vR 34 11 0), some (vI a2), none]) (st' := [vL (x1.2 20 2), vR 34 11 0]) (M1 := x1.2) rfl ?_
    obtain ⟨x2, hx2, h⟩ := Option.bind_eq_some_iff.mp h
    refine Z_callV8 k_X2_takeRoom k_X1_findRoom rfl rfl (l_2_111) (ci := 1) rfl [vL (x1.2 20 2)] [] rfl rfl (Nat.le_of_ble_eq_true rfl) (Nat.le_of_ble_eq_true rfl) (e_X1_findRoom (d + 1) 34 (x1.2 20 2) x1.2 _ _ hx2) ?_
    refine Z_blk k_X2_takeRoom 1 (pc' := 19) (lo' := [some (vR 20 15 0), some (vR 34 11 0), some (vI a2), none]) (st' := [vI x2.1]) (M1 := x2.2) rfl ?_
    refine Z_mask [true, false, true, false] (lo0 := [some (vR 20 15 0), none, some (vI a2), none]) rfl ?_
    exact e_X2_takeRoom_19 d a2 x2.1 x2.2 _ _ h
theorem l_5_76 : zhas 3088 (Jvm.Cond.methodLink "BellPullHouse$Tokens" 76 yX5_advance) = true := by decide +kernel
theorem l_5_92 : zhas 3126 (Jvm.Cond.methodLink "BellPullHouse$Tokens" 92 yX5_refuse) = true := by decide +kernel
def f_X5_takeKeyword (a1 : Int) (M : AM) : Option (Int × AM) := if M 20 3 = a1 then ((f_X5_advance M).bind fun x1 => some (1, x1)) else ((f_X5_refuse 2 M).bind fun x2 => if x2.1 = 0 ∨ x2.1 = 1 then some (x2.1, x2.2) else none)
theorem e_X5_takeKeyword {Y : List (Nat × Nat)} (d : Nat) (a1 : Int) (M : AM) (x : Int) (N : AM) (h : f_X5_takeKeyword a1 M = some (x, N)) : Ev Y (d + 3) m_X5_takeKeyword 0 [some (vR 20 15 0), some (vI a1)] [] M (some (vI x)) N := by
  unfold f_X5_takeKeyword at h
  refine Z_blk k_X5_takeKeyword 3 (pc' := 5) (lo' := [some (vR 20 15 0), some (vI a1)]) (st' := [vI a1, vI (M 20 3)]) (M1 := M) rfl ?_
  refine Z_icmp k_X5_takeKeyword rfl 14 rfl (fun hc => ?_) (fun hc => ?_)
  · replace h := of_pos hc h
    refine Z_blk k_X5_takeKeyword 1 (pc' := 15) (lo' := [some (vR 20 15 0), some (vI a1)]) (st' := [vR 20 15 0]) (M1 := M) rfl ?_
    obtain ⟨x1, hx1, h⟩ := Option.bind_eq_some_iff.mp h
    refine Z_callV8 k_X5_takeKeyword k_X5_advance rfl rfl (l_5_76) (ci := 5) rfl [] [] rfl rfl (Nat.le_of_ble_eq_true rfl) (Nat.le_of_ble_eq_true rfl) (e_X5_advance (d + 0) M _ hx1) ?_
    refine Z_blk k_X5_takeKeyword 1 (pc' := 19) (lo' := [some (vR 20 15 0), some (vI a1)]) (st' := [vI 1]) (M1 := x1) rfl ?_
    cases h
    exact Z_ret ⟨Or.inr ⟨rfl, Or.inr rfl⟩, _, rfl⟩ rfl
  · replace h := of_neg hc h
    refine Z_blk k_X5_takeKeyword 2 (pc' := 10) (lo' := [some (vR 20 15 0), some (vI a1)]) (st' := [vI 2, vR 20 15 0]) (M1 := M) rfl ?_
    obtain ⟨x2, hx2, h⟩ := Option.bind_eq_some_iff.mp h
    refine Z_callV8 k_X5_takeKeyword k_X5_refuse rfl rfl (l_5_92) (ci := 5) rfl [vI 2] [] rfl rfl (Nat.le_of_ble_eq_true rfl) (Nat.le_of_ble_eq_true rfl) (e_X5_refuse (d + 2) 2 M _ _ hx2) ?_
    obtain ⟨hc3, h⟩ := of_grd h
    cases h
    exact Z_ret ⟨Or.inr ⟨rfl, hc3⟩, _, rfl⟩ rfl
def f_X5_takeNumber_32 (M : AM) : Option (Int × AM) := (f_X5_refuse 4 M).bind fun x1 => some ((-1), x1.2)
theorem e_X5_takeNumber_32 {Y : List (Nat × Nat)} (d : Nat) (M : AM) (x : Int) (N : AM) (h : f_X5_takeNumber_32 M = some (x, N)) : Ev Y (d + 3) m_X5_takeNumber 32 [some (vR 20 15 0), none, none, none] [] M (some (vI x)) N := by
  unfold f_X5_takeNumber_32 at h
  refine Z_blk k_X5_takeNumber 2 (pc' := 34) (lo' := [some (vR 20 15 0), none, none, none]) (st' := [vI 4, vR 20 15 0]) (M1 := M) rfl ?_
  obtain ⟨x1, hx1, h⟩ := Option.bind_eq_some_iff.mp h
  refine Z_callV8 k_X5_takeNumber k_X5_refuse rfl rfl (l_5_92) (ci := 5) rfl [vI 4] [] rfl rfl (Nat.le_of_ble_eq_true rfl) (Nat.le_of_ble_eq_true rfl) (e_X5_refuse (d + 2) 4 M _ _ hx1) ?_
  refine Z_blk k_X5_takeNumber 2 (pc' := 39) (lo' := [some (vR 20 15 0), none, none, none]) (st' := [vI (-1)]) (M1 := x1.2) rfl ?_
  cases h
  exact Z_ret ⟨Or.inl rfl, _, rfl⟩ rfl
def f_X5_takeNumber (a1 : Int) (a2 : Int) (M : AM) : Option (Int × AM) := if M 20 0 = 2 then (if M 20 4 < a1 then f_X5_takeNumber_32 M else (if M 20 4 ≤ a2 then ((f_X5_advance M).bind fun x1 => some (M 20 4, x1)) else f_X5_takeNumber_32 M)) else ((f_X5_refuse 2 M).bind fun x2 => some ((-1), x2.2))
theorem e_X5_takeNumber {Y : List (Nat × Nat)} (d : Nat) (a1 : Int) (a2 : Int) (M : AM) (x : Int) (N : AM) (h : f_X5_takeNumber a1 a2 M = some (x, N)) : Ev Y (d + 3) m_X5_takeNumber 0 [some (vR 20 15 0), some (vI a1), some (vI a2), none] [] M (some (vI x)) N := by
  unfold f_X5_takeNumber at h
  refine Z_blk k_X5_takeNumber 3 (pc' := 5) (lo' := [some (vR 20 15 0), some (vI a1), some (vI a2), none]) (st' := [vI 2, vI (M 20 0)]) (M1 := M) rfl ?_
  refine Z_icmp k_X5_takeNumber rfl 16 rfl (fun hc => ?_) (fun hc => ?_)
  · replace h := of_pos hc h
    refine Z_blk k_X5_takeNumber 3 (pc' := 21) (lo' := [some (vR 20 15 0), some (vI a1), some (vI a2), none]) (st' := [vI a1, vI (M 20 4)]) (M1 := M) rfl ?_
    refine Z_icmp k_X5_takeNumber rfl 32 rfl (fun hc => ?_) (fun hc => ?_)
    · replace h := of_pos hc h
      refine Z_mask [true, false, false, false] (lo0 := [some (vR 20 15 0), none, none, none]) rfl ?_
      exact e_X5_takeNumber_32 d M _ _ h
    · replace h := of_neg hc h
      refine Z_blk k_X5_takeNumber 3 (pc' := 29) (lo' := [some (vR 20 15 0), some (vI a1), some (vI a2), none]) (st' := [vI a2, vI (M 20 4)]) (M1 := M) rfl ?_
      refine Z_icmp k_X5_takeNumber rfl 40 rfl (fun hc => ?_) (fun hc => ?_)
      · replace h := of_pos hc h
        refine Z_blk k_X5_takeNumber 4 (pc' := 46) (lo' := [some (vR 20 15 0), some (vI a1), some (vI a2), some (vI (M 20 4))]) (st' := [vR 20 15 0]) (M1 := M) rfl ?_
        obtain ⟨x1, hx1, h⟩ := Option.bind_eq_some_iff.mp h
        refine Z_callV8 k_X5_takeNumber k_X5_advance rfl rfl (l_5_76) (ci := 5) rfl [] [] rfl rfl (Nat.le_of_ble_eq_true rfl) (Nat.le_of_ble_eq_true rfl) (e_X5_advance (d + 0) M _ hx1) ?_
        refine Z_blk k_X5_takeNumber 1 (pc' := 50) (lo' := [some (vR 20 15 0), some (vI a1), some (vI a2), some (vI (M 20 4))]) (st' := [vI (M 20 4)]) (M1 := x1) rfl ?_
        cases h
        exact Z_ret ⟨Or.inl rfl, _, rfl⟩ rfl
      · replace h := of_neg hc h
        refine Z_mask [true, false, false, false] (lo0 := [some (vR 20 15 0), none, none, none]) rfl ?_
        exact e_X5_takeNumber_32 d M _ _ h
  · replace h := of_neg hc h
    refine Z_blk k_X5_takeNumber 2 (pc' := 10) (lo' := [some (vR 20 15 0), some (vI a1), some (vI a2), none]) (st' := [vI 2, vR 20 15 0]) (M1 := M) rfl ?_
    obtain ⟨x2, hx2, h⟩ := Option.bind_eq_some_iff.mp h
    refine Z_callV8 k_X5_takeNumber k_X5_refuse rfl rfl (l_5_92) (ci := 5) rfl [vI 2] [] rfl rfl (Nat.le_of_ble_eq_true rfl) (Nat.le_of_ble_eq_true rfl) (e_X5_refuse (d + 2) 2 M _ _ hx2) ?_
    refine Z_blk k_X5_takeNumber 2 (pc' := 15) (lo' := [some (vR 20 15 0), some (vI a1), some (vI a2), none]) (st' := [vI (-1)]) (M1 := x2.2) rfl ?_
    cases h
    exact Z_ret ⟨Or.inl rfl, _, rfl⟩ rfl
def f_X5_isSign (a1 : Int) (M : AM) : Option (Int × AM) := if ¬ M 20 0 = 3 then some (0, M) else (if ¬ M 20 4 = a1 then some (0, M) else some (1, M))
theorem e_X5_isSign {Y : List (Nat × Nat)} (d : Nat) (a1 : Int) (M : AM) (x : Int) (N : AM) (h : f_X5_isSign a1 M = some (x, N)) : Ev Y (d + 0) m_X5_isSign 0 [some (vR 20 15 0), some (vI a1)] [] M (some (vI x)) N := by
  unfold f_X5_isSign at h
  refine Z_blk k_X5_isSign 3 (pc' := 5) (lo' := [some (vR 20 15 0), some (vI a1)]) (st' := [vI 3, vI (M 20 0)]) (M1 := M) rfl ?_
  refine Z_icmp k_X5_isSign rfl 20 rfl (fun hc => ?_) (fun hc => ?_)
  · replace h := of_pos hc h
    refine Z_blk k_X5_isSign 1 (pc' := 21) (lo' := [some (vR 20 15 0), some (vI a1)]) (st' := [vI 0]) (M1 := M) rfl ?_
    cases h
    exact Z_ret ⟨Or.inr ⟨rfl, Or.inl rfl⟩, _, rfl⟩ rfl
  · replace h := of_neg hc h
    refine Z_blk k_X5_isSign 3 (pc' := 13) (lo' := [some (vR 20 15 0), some (vI a1)]) (st' := [vI a1, vI (M 20 4)]) (M1 := M) rfl ?_
    refine Z_icmp k_X5_isSign rfl 20 rfl (fun hc => ?_) (fun hc => ?_)
    · replace h := of_pos hc h
      refine Z_blk k_X5_isSign 1 (pc' := 21) (lo' := [some (vR 20 15 0), some (vI a1)]) (st' := [vI 0]) (M1 := M) rfl ?_
      cases h
      exact Z_ret ⟨Or.inr ⟨rfl, Or.inl rfl⟩, _, rfl⟩ rfl
    · replace h := of_neg hc h
      refine Z_blk k_X5_isSign 2 (pc' := 21) (lo' := [some (vR 20 15 0), some (vI a1)]) (st' := [vI 1]) (M1 := M) rfl ?_
      cases h
      exact Z_ret ⟨Or.inr ⟨rfl, Or.inr rfl⟩, _, rfl⟩ rfl
theorem l_5_95 : zhas 3131 (Jvm.Cond.methodLink "BellPullHouse$Tokens" 95 yX5_isSign) = true := by decide +kernel
def f_X5_takeSemicolon (M : AM) : Option (Int × AM) := (f_X5_isSign 59 M).bind fun x1 => if ¬ x1.1 = 0 then ((f_X5_advance x1.2).bind fun x2 => some (1, x2)) else ((f_X5_refuse 2 x1.2).bind fun x3 => if x3.1 = 0 ∨ x3.1 = 1 then some (x3.1, x3.2) else none)
theorem e_X5_takeSemicolon {Y : List (Nat × Nat)} (d : Nat) (M : AM) (x : Int) (N : AM) (h : f_X5_takeSemicolon M = some (x, N)) : Ev Y (d + 3) m_X5_takeSemicolon 0 [some (vR 20 15 0)] [] M (some (vI x)) N := by
  unfold f_X5_takeSemicolon at h
  refine Z_blk k_X5_takeSemicolon 2 (pc' := 3) (lo' := [some (vR 20 15 0)]) (st' := [vI 59, vR 20 15 0]) (M1 := M) rfl ?_
  obtain ⟨x1, hx1, h⟩ := Option.bind_eq_some_iff.mp h
  refine Z_callV8 k_X5_takeSemicolon k_X5_isSign rfl rfl (l_5_95) (ci := 5) rfl [vI 59] [] rfl rfl (Nat.le_of_ble_eq_true rfl) (Nat.le_of_ble_eq_true rfl) (e_X5_isSign (d + 2) 59 M _ _ hx1) ?_
  refine Z_if k_X5_takeSemicolon rfl 15 rfl (fun hc => ?_) (fun hc => ?_)
  · replace h := of_pos hc h
    refine Z_blk k_X5_takeSemicolon 1 (pc' := 16) (lo' := [some (vR 20 15 0)]) (st' := [vR 20 15 0]) (M1 := x1.2) rfl ?_
    obtain ⟨x2, hx2, h⟩ := Option.bind_eq_some_iff.mp h
    refine Z_callV8 k_X5_takeSemicolon k_X5_advance rfl rfl (l_5_76) (ci := 5) rfl [] [] rfl rfl (Nat.le_of_ble_eq_true rfl) (Nat.le_of_ble_eq_true rfl) (e_X5_advance (d + 0) x1.2 _ hx2) ?_
    refine Z_blk k_X5_takeSemicolon 1 (pc' := 20) (lo' := [some (vR 20 15 0)]) (st' := [vI 1]) (M1 := x2) rfl ?_
    cases h
    exact Z_ret ⟨Or.inr ⟨rfl, Or.inr rfl⟩, _, rfl⟩ rfl
  · replace h := of_neg hc h
    refine Z_blk k_X5_takeSemicolon 2 (pc' := 11) (lo' := [some (vR 20 15 0)]) (st' := [vI 2, vR 20 15 0]) (M1 := x1.2) rfl ?_
    obtain ⟨x3, hx3, h⟩ := Option.bind_eq_some_iff.mp h
    refine Z_callV8 k_X5_takeSemicolon k_X5_refuse rfl rfl (l_5_92) (ci := 5) rfl [vI 2] [] rfl rfl (Nat.le_of_ble_eq_true rfl) (Nat.le_of_ble_eq_true rfl) (e_X5_refuse (d + 2) 2 x1.2 _ _ hx3) ?_
    obtain ⟨hc4, h⟩ := of_grd h
    cases h
    exact Z_ret ⟨Or.inr ⟨rfl, hc4⟩, _, rfl⟩ rfl
theorem l_2_42 : zhas 3127 (Jvm.Cond.methodLink "BellPullHouse$HouseReader" 42 yX5_takeSemicolon) = true := by decide +kernel
theorem l_2_65 : zhas 3122 (Jvm.Cond.methodLink "BellPullHouse$HouseReader" 65 yX5_takeNumber) = true := by decide +kernel
theorem l_2_72 : zhas 3141 (Jvm.Cond.methodLink "BellPullHouse$HouseReader" 72 yX2_takeNewName) = true := by decide +kernel
theorem l_2_79 : zhas 3159 (Jvm.Cond.methodLink "BellPullHouse$HouseReader" 79 yX5_takeKeyword) = true := by decide +kernel
theorem l_2_82 : zhas 3163 (Jvm.Cond.methodLink "BellPullHouse$HouseReader" 82 yX2_takeRoom) = true := by decide +kernel
theorem l_2_93 : zhas 3177 (Jvm.Cond.methodLink "BellPullHouse$HouseReader" 93 yX1_addCouple) = true := by decide +kernel
def f_X2_readCouple (M : AM) : Option (Int × AM) := if M 34 4 < 6 then ((f_X5_advance M).bind fun x1 => (f_X2_takeNewName (o_add 18 (x1 34 4)) x1).bind fun x2 => if x2.1 = 0 then some (0, x2.2) else ((f_X5_takeKeyword 8 x2.2).bind fun x3 => if ¬ x3.1 = 0 then ((f_X2_takeRoom (-1) x3.2).bind fun x4 => if x4.1 = (-1) then some (0, x4.2) else ((f_X5_takeKeyword 9 x4.2).bind fun x5 => if ¬ x5.1 = 0 then ((f_X2_takeRoom (-1) x5.2).bind fun x6 => if x6.1 = (-1) then some (0, x6.2) else ((f_X5_takeKeyword 10 x6.2).bind fun x7 => if ¬ x7.1 = 0 then ((f_X5_takeNumber 1 9 x7.2).bind fun x8 => if x8.1 = (-1) then some (0, x8.2) else ((f_X5_takeSemicolon x8.2).bind fun x9 => if ¬ x9.1 = 0 then ((f_X1_addCouple 34 x4.1 x6.1 x8.1 x9.2).bind fun x10 => some (1, x10)) else some (0, x9.2))) else some (0, x7.2))) else some (0, x5.2))) else some (0, x3.2))) else ((f_X5_refuse 6 M).bind fun x11 => if x11.1 = 0 ∨ x11.1 = 1 then some (x11.1, x11.2) else none)
theorem e_X2_readCouple {Y : List (Nat × Nat)} (d : Nat) (M : AM) (x : Int) (N : AM) (h : f_X2_readCouple M = some (x, N)) : Ev Y (d + 4) m_X2_readCouple 0 [some (vR 20 15 0), some (vR 34 11 0), none, none, none] [] M (some (vI x)) N := by
  unfold f_X2_readCouple at h
  refine Z_blk k_X2_readCouple 3 (pc' := 6) (lo' := [some (vR 20 15 0), some (vR 34 11 0), none, none, none]) (st' := [vI 6, vI (M 34 4)]) (M1 := M) rfl ?_
  refine Z_icmp k_X2_readCouple rfl 16 rfl (fun hc => ?_) (fun hc => ?_)
  · replace h := of_pos hc h
    refine Z_blk k_X2_readCouple 1 (pc' := 17) (lo' := [some (vR 20 15 0), some (vR 34 11 0), none, none, none]) (st' := [vR 20 15 0]) (M1 := M) rfl ?_
    obtain ⟨x1, hx1, h⟩ := Option.bind_eq_some_iff.mp h
    refine Z_callV8 k_X2_readCouple k_X5_advance rfl rfl (l_2_62) (ci := 5) rfl [] [] rfl rfl (Nat.le_of_ble_eq_true rfl) (Nat.le_of_ble_eq_true rfl) (e_X5_advance (d + 1) M _ hx1) ?_
    refine Z_blk k_X2_readCouple 6 (pc' := 29) (lo' := [some (vR 20 15 0), some (vR 34 11 0), none, none, none]) (st' := [vI (o_add 18 (x1 34 4)), vR 34 11 0, vR 20 15 0]) (M1 := x1) rfl ?_
    obtain ⟨x2, hx2, h⟩ := Option.bind_eq_some_iff.mp h
    refine Z_callS8 k_X2_readCouple k_X2_takeNewName rfl rfl (l_2_72) [vR 20 15 0, vR 34 11 0, vI (o_add 18 (x1 34 4))] [] rfl rfl (Nat.le_of_ble_eq_true rfl) (Nat.le_of_ble_eq_true rfl) (e_X2_takeNewName (d + 0) (o_add 18 (x1 34 4)) x1 _ _ hx2) ?_
    refine Z_if k_X2_readCouple rfl 44 rfl (fun hc => ?_) (fun hc => ?_)
    · replace h := of_pos hc h
      refine Z_blk k_X2_readCouple 1 (pc' := 45) (lo' := [some (vR 20 15 0), some (vR 34 11 0), none, none, none]) (st' := [vI 0]) (M1 := x2.2) rfl ?_
      cases h
      exact Z_ret ⟨Or.inr ⟨rfl, Or.inl rfl⟩, _, rfl⟩ rfl
    · replace h := of_neg hc h
      refine Z_blk k_X2_readCouple 2 (pc' := 38) (lo' := [some (vR 20 15 0), some (vR 34 11 0), none, none, none]) (st' := [vI 8, vR 20 15 0]) (M1 := x2.2) rfl ?_
      obtain ⟨x3, hx3, h⟩ := Option.bind_eq_some_iff.mp h
      refine Z_callV8 k_X2_readCouple k_X5_takeKeyword rfl rfl (l_2_79) (ci := 5) rfl [vI 8] [] rfl rfl (Nat.le_of_ble_eq_true rfl) (Nat.le_of_ble_eq_true rfl) (e_X5_takeKeyword (d + 0) 8 x2.2 _ _ hx3) ?_
      refine Z_if k_X2_readCouple rfl 46 rfl (fun hc => ?_) (fun hc => ?_)
      · replace h := of_pos hc h
        refine Z_blk k_X2_readCouple 3 (pc' := 49) (lo' := [some (vR 20 15 0), some (vR 34 11 0), none, none, none]) (st' := [vI (-1), vR 34 11 0, vR 20 15 0]) (M1 := x3.2) rfl ?_
        obtain ⟨x4, hx4, h⟩ := Option.bind_eq_some_iff.mp h
        refine Z_callS8 k_X2_readCouple k_X2_takeRoom rfl rfl (l_2_82) [vR 20 15 0, vR 34 11 0, vI (-1)] [] rfl rfl (Nat.le_of_ble_eq_true rfl) (Nat.le_of_ble_eq_true rfl) (e_X2_takeRoom (d + 0) (-1) x3.2 _ _ hx4) ?_
        refine Z_blk k_X2_readCouple 3 (pc' := 55) (lo' := [some (vR 20 15 0), some (vR 34 11 0), some (vI x4.1), none, none]) (st' := [vI (-1), vI x4.1]) (M1 := x4.2) rfl ?_
        refine Z_icmp k_X2_readCouple rfl 67 rfl (fun hc => ?_) (fun hc => ?_)
        · replace h := of_pos hc h
          refine Z_blk k_X2_readCouple 1 (pc' := 68) (lo' := [some (vR 20 15 0), some (vR 34 11 0), some (vI x4.1), none, none]) (st' := [vI 0]) (M1 := x4.2) rfl ?_
          cases h
          exact Z_ret ⟨Or.inr ⟨rfl, Or.inl rfl⟩, _, rfl⟩ rfl
        · replace h := of_neg hc h
          refine Z_blk k_X2_readCouple 2 (pc' := 61) (lo' := [some (vR 20 15 0), some (vR 34 11 0), some (vI x4.1), none, none]) (st' := [vI 9, vR 20 15 0]) (M1 := x4.2) rfl ?_
          obtain ⟨x5, hx5, h⟩ := Option.bind_eq_some_iff.mp h
          refine Z_callV8 k_X2_readCouple k_X5_takeKeyword rfl rfl (l_2_79) (ci := 5) rfl [vI 9] [] rfl rfl (Nat.le_of_ble_eq_true rfl) (Nat.le_of_ble_eq_true rfl) (e_X5_takeKeyword (d + 0) 9 x4.2 _ _ hx5) ?_
          refine Z_if k_X2_readCouple rfl 69 rfl (fun hc => ?_) (fun hc => ?_)
          · replace h := of_pos hc h
            refine Z_blk k_X2_readCouple 3 (pc' := 72) (lo' := [some (vR 20 15 0), some (vR 34 11 0), some (vI x4.1), none, none]) (st' := [vI (-1), vR 34 11 0, vR 20 15 0]) (M1 := x5.2) rfl ?_
            obtain ⟨x6, hx6, h⟩ := Option.bind_eq_some_iff.mp h
            refine Z_callS8 k_X2_readCouple k_X2_takeRoom rfl rfl (l_2_82) [vR 20 15 0, vR 34 11 0, vI (-1)] [] rfl rfl (Nat.le_of_ble_eq_true rfl) (Nat.le_of_ble_eq_true rfl) (e_X2_takeRoom (d + 0) (-1) x5.2 _ _ hx6) ?_
            refine Z_blk k_X2_readCouple 3 (pc' := 78) (lo' := [some (vR 20 15 0), some (vR 34 11 0), some (vI x4.1), some (vI x6.1), none]) (st' := [vI (-1), vI x6.1]) (M1 := x6.2) rfl ?_
            refine Z_icmp k_X2_readCouple rfl 90 rfl (fun hc => ?_) (fun hc => ?_)
            · replace h := of_pos hc h
              refine Z_blk k_X2_readCouple 1 (pc' := 91) (lo' := [some (vR 20 15 0), some (vR 34 11 0), some (vI x4.1), some (vI x6.1), none]) (st' := [vI 0]) (M1 := x6.2) rfl ?_
              cases h
              exact Z_ret ⟨Or.inr ⟨rfl, Or.inl rfl⟩, _, rfl⟩ rfl
            · replace h := of_neg hc h
              refine Z_blk k_X2_readCouple 2 (pc' := 84) (lo' := [some (vR 20 15 0), some (vR 34 11 0), some (vI x4.1), some (vI x6.1), none]) (st' := [vI 10, vR 20 15 0]) (M1 := x6.2) rfl ?_
              obtain ⟨x7, hx7, h⟩ := Option.bind_eq_some_iff.mp h
              refine Z_callV8 k_X2_readCouple k_X5_takeKeyword rfl rfl (l_2_79) (ci := 5) rfl [vI 10] [] rfl rfl (Nat.le_of_ble_eq_true rfl) (Nat.le_of_ble_eq_true rfl) (e_X5_takeKeyword (d + 0) 10 x6.2 _ _ hx7) ?_
              refine Z_if k_X2_readCouple rfl 92 rfl (fun hc => ?_) (fun hc => ?_)
              · replace h := of_pos hc h
                refine Z_blk k_X2_readCouple 3 (pc' := 96) (lo' := [some (vR 20 15 0), some (vR 34 11 0), some (vI x4.1), some (vI x6.1), none]) (st' := [vI 9, vI 1, vR 20 15 0]) (M1 := x7.2) rfl ?_
                obtain ⟨x8, hx8, h⟩ := Option.bind_eq_some_iff.mp h
                refine Z_callV8 k_X2_readCouple k_X5_takeNumber rfl rfl (l_2_65) (ci := 5) rfl [vI 1, vI 9] [] rfl rfl (Nat.le_of_ble_eq_true rfl) (Nat.le_of_ble_eq_true rfl) (e_X5_takeNumber (d + 0) 1 9 x7.2 _ _ hx8) ?_
                refine Z_blk k_X2_readCouple 3 (pc' := 104) (lo' := [some (vR 20 15 0), some (vR 34 11 0), some (vI x4.1), some (vI x6.1), some (vI x8.1)]) (st' := [vI (-1), vI x8.1]) (M1 := x8.2) rfl ?_
                refine Z_icmp k_X2_readCouple rfl 114 rfl (fun hc => ?_) (fun hc => ?_)
                · replace h := of_pos hc h
                  refine Z_blk k_X2_readCouple 1 (pc' := 115) (lo' := [some (vR 20 15 0), some (vR 34 11 0), some (vI x4.1), some (vI x6.1), some (vI x8.1)]) (st' := [vI 0]) (M1 := x8.2) rfl ?_
                  cases h
                  exact Z_ret ⟨Or.inr ⟨rfl, Or.inl rfl⟩, _, rfl⟩ rfl
                · replace h := of_neg hc h
                  refine Z_blk k_X2_readCouple 1 (pc' := 108) (lo' := [some (vR 20 15 0), some (vR 34 11 0), some (vI x4.1), some (vI x6.1), some (vI x8.1)]) (st' := [vR 20 15 0]) (M1 := x8.2) rfl ?_
                  obtain ⟨x9, hx9, h⟩ := Option.bind_eq_some_iff.mp h
                  refine Z_callV8 k_X2_readCouple k_X5_takeSemicolon rfl rfl (l_2_42) (ci := 5) rfl [] [] rfl rfl (Nat.le_of_ble_eq_true rfl) (Nat.le_of_ble_eq_true rfl) (e_X5_takeSemicolon (d + 0) x8.2 _ _ hx9) ?_
                  refine Z_if k_X2_readCouple rfl 116 rfl (fun hc => ?_) (fun hc => ?_)
                  · replace h := of_pos hc h
                    refine Z_blk k_X2_readCouple 4 (pc' := 121) (lo' := [some (vR 20 15 0), some (vR 34 11 0), some (vI x4.1), some (vI x6.1), some (vI x8.1)]) (st' := [vI x8.1, vI x6.1, vI x4.1, vR 34 11 0]) (M1 := x9.2) rfl ?_
                    obtain ⟨x10, hx10, h⟩ := Option.bind_eq_some_iff.mp h
                    refine Z_callV8 k_X2_readCouple k_X1_addCouple rfl rfl (l_2_93) (ci := 1) rfl [vI x4.1, vI x6.1, vI x8.1] [] rfl rfl (Nat.le_of_ble_eq_true rfl) (Nat.le_of_ble_eq_true rfl) (e_X1_addCouple (d + 3) 34 x4.1 x6.1 x8.1 x9.2 _ hx10) ?_
                    refine Z_blk k_X2_readCouple 1 (pc' := 125) (lo' := [some (vR 20 15 0), some (vR 34 11 0), some (vI x4.1), some (vI x6.1), some (vI x8.1)]) (st' := [vI 1]) (M1 := x10) rfl ?_
                    cases h
                    exact Z_ret ⟨Or.inr ⟨rfl, Or.inr rfl⟩, _, rfl⟩ rfl
                  · replace h := of_neg hc h
                    refine Z_blk k_X2_readCouple 1 (pc' := 115) (lo' := [some (vR 20 15 0), some (vR 34 11 0), some (vI x4.1), some (vI x6.1), some (vI x8.1)]) (st' := [vI 0]) (M1 := x9.2) rfl ?_
                    cases h
                    exact Z_ret ⟨Or.inr ⟨rfl, Or.inl rfl⟩, _, rfl⟩ rfl
              · replace h := of_neg hc h
                refine Z_blk k_X2_readCouple 1 (pc' := 91) (lo' := [some (vR 20 15 0), some (vR 34 11 0), some (vI x4.1), some (vI x6.1), none]) (st' := [vI 0]) (M1 := x7.2) rfl ?_
                cases h
                exact Z_ret ⟨Or.inr ⟨rfl, Or.inl rfl⟩, _, rfl⟩ rfl
          · replace h := of_neg hc h
            refine Z_blk k_X2_readCouple 1 (pc' := 68) (lo' := [some (vR 20 15 0), some (vR 34 11 0), some (vI x4.1), none, none]) (st' := [vI 0]) (M1 := x5.2) rfl ?_
            cases h
            exact Z_ret ⟨Or.inr ⟨rfl, Or.inl rfl⟩, _, rfl⟩ rfl
      · replace h := of_neg hc h
        refine Z_blk k_X2_readCouple 1 (pc' := 45) (lo' := [some (vR 20 15 0), some (vR 34 11 0), none, none, none]) (st' := [vI 0]) (M1 := x3.2) rfl ?_
        cases h
        exact Z_ret ⟨Or.inr ⟨rfl, Or.inl rfl⟩, _, rfl⟩ rfl
  · replace h := of_neg hc h
    refine Z_blk k_X2_readCouple 2 (pc' := 12) (lo' := [some (vR 20 15 0), some (vR 34 11 0), none, none, none]) (st' := [vI 6, vR 20 15 0]) (M1 := M) rfl ?_
    obtain ⟨x11, hx11, h⟩ := Option.bind_eq_some_iff.mp h
    refine Z_callV8 k_X2_readCouple k_X5_refuse rfl rfl (l_2_58) (ci := 5) rfl [vI 6] [] rfl rfl (Nat.le_of_ble_eq_true rfl) (Nat.le_of_ble_eq_true rfl) (e_X5_refuse (d + 3) 6 M _ _ hx11) ?_
    obtain ⟨hc12, h⟩ := of_grd h
    cases h
    exact Z_ret ⟨Or.inr ⟨rfl, hc12⟩, _, rfl⟩ rfl
def f_X2_readOdds (M : AM) : Option (Int × AM) := if M 34 1 = (-1) then ((f_X5_advance M).bind fun x1 => (f_X5_takeNumber 0 16 x1).bind fun x2 => zlet (am_upd x2.2 34 1 x2.1) fun M3 => if M3 34 1 = (-1) then some (0, M3) else some (1, M3)) else ((f_X5_refuse 5 M).bind fun x4 => if x4.1 = 0 ∨ x4.1 = 1 then some (x4.1, x4.2) else none)
theorem e_X2_readOdds {Y : List (Nat × Nat)} (d : Nat) (M : AM) (x : Int) (N : AM) (h : f_X2_readOdds M = some (x, N)) : Ev Y (d + 4) m_X2_readOdds 0 [some (vR 20 15 0), some (vR 34 11 0)] [] M (some (vI x)) N := by
  unfold f_X2_readOdds at h
  refine Z_blk k_X2_readOdds 3 (pc' := 5) (lo' := [some (vR 20 15 0), some (vR 34 11 0)]) (st' := [vI (-1), vI (M 34 1)]) (M1 := M) rfl ?_
  refine Z_icmp k_X2_readOdds rfl 14 rfl (fun hc => ?_) (fun hc => ?_)
  · replace h := of_pos hc h
    refine Z_blk k_X2_readOdds 1 (pc' := 15) (lo' := [some (vR 20 15 0), some (vR 34 11 0)]) (st' := [vR 20 15 0]) (M1 := M) rfl ?_
    obtain ⟨x1, hx1, h⟩ := Option.bind_eq_some_iff.mp h
    refine Z_callV8 k_X2_readOdds k_X5_advance rfl rfl (l_2_62) (ci := 5) rfl [] [] rfl rfl (Nat.le_of_ble_eq_true rfl) (Nat.le_of_ble_eq_true rfl) (e_X5_advance (d + 1) M _ hx1) ?_
    refine Z_blk k_X2_readOdds 4 (pc' := 23) (lo' := [some (vR 20 15 0), some (vR 34 11 0)]) (st' := [vI 16, vI 0, vR 20 15 0, vR 34 11 0]) (M1 := x1) rfl ?_
    obtain ⟨x2, hx2, h⟩ := Option.bind_eq_some_iff.mp h
    refine Z_callV8 k_X2_readOdds k_X5_takeNumber rfl rfl (l_2_65) (ci := 5) rfl [vI 0, vI 16] [vR 34 11 0] rfl rfl (Nat.le_of_ble_eq_true rfl) (Nat.le_of_ble_eq_true rfl) (e_X5_takeNumber (d + 0) 0 16 x1 _ _ hx2) ?_
    obtain ⟨M3, eM3, h⟩ := of_zlet h
    refine Z_blk k_X2_readOdds 1 (pc' := 29) (lo' := [some (vR 20 15 0), some (vR 34 11 0)]) (st' := []) (M1 := M3) (by rw [eM3]; rfl) ?_
    refine Z_blk k_X2_readOdds 3 (pc' := 34) (lo' := [some (vR 20 15 0), some (vR 34 11 0)]) (st' := [vI (-1), vI (M3 34 1)]) (M1 := M3) rfl ?_
    refine Z_icmp k_X2_readOdds rfl 41 rfl (fun hc => ?_) (fun hc => ?_)
    · replace h := of_pos hc h
      refine Z_blk k_X2_readOdds 1 (pc' := 42) (lo' := [some (vR 20 15 0), some (vR 34 11 0)]) (st' := [vI 0]) (M1 := M3) rfl ?_
      cases h
      exact Z_ret ⟨Or.inr ⟨rfl, Or.inl rfl⟩, _, rfl⟩ rfl
    · replace h := of_neg hc h
      refine Z_blk k_X2_readOdds 2 (pc' := 42) (lo' := [some (vR 20 15 0), some (vR 34 11 0)]) (st' := [vI 1]) (M1 := M3) rfl ?_
      cases h
      exact Z_ret ⟨Or.inr ⟨rfl, Or.inr rfl⟩, _, rfl⟩ rfl
  · replace h := of_neg hc h
    refine Z_blk k_X2_readOdds 2 (pc' := 10) (lo' := [some (vR 20 15 0), some (vR 34 11 0)]) (st' := [vI 5, vR 20 15 0]) (M1 := M) rfl ?_
    obtain ⟨x4, hx4, h⟩ := Option.bind_eq_some_iff.mp h
    refine Z_callV8 k_X2_readOdds k_X5_refuse rfl rfl (l_2_58) (ci := 5) rfl [vI 5] [] rfl rfl (Nat.le_of_ble_eq_true rfl) (Nat.le_of_ble_eq_true rfl) (e_X5_refuse (d + 3) 5 M _ _ hx4) ?_
    obtain ⟨hc5, h⟩ := of_grd h
    cases h
    exact Z_ret ⟨Or.inr ⟨rfl, hc5⟩, _, rfl⟩ rfl
def f_X2_readPower (M : AM) : Option (Int × AM) := if M 34 0 = (-1) then ((f_X5_advance M).bind fun x1 => (f_X5_takeNumber 1 99 x1).bind fun x2 => zlet (am_upd x2.2 34 0 x2.1) fun M3 => if M3 34 0 = (-1) then some (0, M3) else some (1, M3)) else ((f_X5_refuse 5 M).bind fun x4 => if x4.1 = 0 ∨ x4.1 = 1 then some (x4.1, x4.2) else none)
theorem e_X2_readPower {Y : List (Nat × Nat)} (d : Nat) (M : AM) (x : Int) (N : AM) (h : f_X2_readPower M = some (x, N)) : Ev Y (d + 4) m_X2_readPower 0 [some (vR 20 15 0), some (vR 34 11 0)] [] M (some (vI x)) N := by
  unfold f_X2_readPower at h
  refine Z_blk k_X2_readPower 3 (pc' := 5) (lo' := [some (vR 20 15 0), some (vR 34 11 0)]) (st' := [vI (-1), vI (M 34 0)]) (M1 := M) rfl ?_
  refine Z_icmp k_X2_readPower rfl 14 rfl (fun hc => ?_) (fun hc => ?_)
  · replace h := of_pos hc h
    refine Z_blk k_X2_readPower 1 (pc' := 15) (lo' := [some (vR 20 15 0), some (vR 34 11 0)]) (st' := [vR 20 15 0]) (M1 := M) rfl ?_
    obtain ⟨x1, hx1, h⟩ := Option.bind_eq_some_iff.mp h
    refine Z_callV8 k_X2_readPower k_X5_advance rfl rfl (l_2_62) (ci := 5) rfl [] [] rfl rfl (Nat.le_of_ble_eq_true rfl) (Nat.le_of_ble_eq_true rfl) (e_X5_advance (d + 1) M _ hx1) ?_
    refine Z_blk k_X2_readPower 4 (pc' := 23) (lo' := [some (vR 20 15 0), some (vR 34 11 0)]) (st' := [vI 99, vI 1, vR 20 15 0, vR 34 11 0]) (M1 := x1) rfl ?_
    obtain ⟨x2, hx2, h⟩ := Option.bind_eq_some_iff.mp h
    refine Z_callV8 k_X2_readPower k_X5_takeNumber rfl rfl (l_2_65) (ci := 5) rfl [vI 1, vI 99] [vR 34 11 0] rfl rfl (Nat.le_of_ble_eq_true rfl) (Nat.le_of_ble_eq_true rfl) (e_X5_takeNumber (d + 0) 1 99 x1 _ _ hx2) ?_
    obtain ⟨M3, eM3, h⟩ := of_zlet h
    refine Z_blk k_X2_readPower 1 (pc' := 29) (lo' := [some (vR 20 15 0), some (vR 34 11 0)]) (st' := []) (M1 := M3) (by rw [eM3]; rfl) ?_
    refine Z_blk k_X2_readPower 3 (pc' := 34) (lo' := [some (vR 20 15 0), some (vR 34 11 0)]) (st' := [vI (-1), vI (M3 34 0)]) (M1 := M3) rfl ?_
    refine Z_icmp k_X2_readPower rfl 41 rfl (fun hc => ?_) (fun hc => ?_)
    · replace h := of_pos hc h
      refine Z_blk k_X2_readPower 1 (pc' := 42) (lo' := [some (vR 20 15 0), some (vR 34 11 0)]) (st' := [vI 0]) (M1 := M3) rfl ?_
      cases h
      exact Z_ret ⟨Or.inr ⟨rfl, Or.inl rfl⟩, _, rfl⟩ rfl
    · replace h := of_neg hc h
      refine Z_blk k_X2_readPower 2 (pc' := 42) (lo' := [some (vR 20 15 0), some (vR 34 11 0)]) (st' := [vI 1]) (M1 := M3) rfl ?_
      cases h
      exact Z_ret ⟨Or.inr ⟨rfl, Or.inr rfl⟩, _, rfl⟩ rfl
  · replace h := of_neg hc h
    refine Z_blk k_X2_readPower 2 (pc' := 10) (lo' := [some (vR 20 15 0), some (vR 34 11 0)]) (st' := [vI 5, vR 20 15 0]) (M1 := M) rfl ?_
    obtain ⟨x4, hx4, h⟩ := Option.bind_eq_some_iff.mp h
    refine Z_callV8 k_X2_readPower k_X5_refuse rfl rfl (l_2_58) (ci := 5) rfl [vI 5] [] rfl rfl (Nat.le_of_ble_eq_true rfl) (Nat.le_of_ble_eq_true rfl) (e_X5_refuse (d + 3) 5 M _ _ hx4) ?_
    obtain ⟨hc5, h⟩ := of_grd h
    cases h
    exact Z_ret ⟨Or.inr ⟨rfl, hc5⟩, _, rfl⟩ rfl
def f_X2_readRoom (M : AM) : Option (Int × AM) := if M 34 2 < 8 then ((f_X5_advance M).bind fun x1 => (f_X2_takeNewName (x1 34 2) x1).bind fun x2 => if x2.1 = 0 then some (0, x2.2) else ((f_X5_takeSemicolon x2.2).bind fun x3 => if ¬ x3.1 = 0 then (zlet (am_upd x3.2 34 2 (o_add (x3.2 34 2) 1)) fun M4 => some (1, M4)) else some (0, x3.2))) else ((f_X5_refuse 6 M).bind fun x5 => if x5.1 = 0 ∨ x5.1 = 1 then some (x5.1, x5.2) else none)
theorem e_X2_readRoom {Y : List (Nat × Nat)} (d : Nat) (M : AM) (x : Int) (N : AM) (h : f_X2_readRoom M = some (x, N)) : Ev Y (d + 4) m_X2_readRoom 0 [some (vR 20 15 0), some (vR 34 11 0)] [] M (some (vI x)) N := by
  unfold f_X2_readRoom at h
  refine Z_blk k_X2_readRoom 3 (pc' := 6) (lo' := [some (vR 20 15 0), some (vR 34 11 0)]) (st' := [vI 8, vI (M 34 2)]) (M1 := M) rfl ?_
  refine Z_icmp k_X2_readRoom rfl 16 rfl (fun hc => ?_) (fun hc => ?_)
  · replace h := of_pos hc h
    refine Z_blk k_X2_readRoom 1 (pc' := 17) (lo' := [some (vR 20 15 0), some (vR 34 11 0)]) (st' := [vR 20 15 0]) (M1 := M) rfl ?_
    obtain ⟨x1, hx1, h⟩ := Option.bind_eq_some_iff.mp h
    refine Z_callV8 k_X2_readRoom k_X5_advance rfl rfl (l_2_62) (ci := 5) rfl [] [] rfl rfl (Nat.le_of_ble_eq_true rfl) (Nat.le_of_ble_eq_true rfl) (e_X5_advance (d + 1) M _ hx1) ?_
    refine Z_blk k_X2_readRoom 4 (pc' := 26) (lo' := [some (vR 20 15 0), some (vR 34 11 0)]) (st' := [vI (x1 34 2), vR 34 11 0, vR 20 15 0]) (M1 := x1) rfl ?_
    obtain ⟨x2, hx2, h⟩ := Option.bind_eq_some_iff.mp h
    refine Z_callS8 k_X2_readRoom k_X2_takeNewName rfl rfl (l_2_72) [vR 20 15 0, vR 34 11 0, vI (x1 34 2)] [] rfl rfl (Nat.le_of_ble_eq_true rfl) (Nat.le_of_ble_eq_true rfl) (e_X2_takeNewName (d + 0) (x1 34 2) x1 _ _ hx2) ?_
    refine Z_if k_X2_readRoom rfl 39 rfl (fun hc => ?_) (fun hc => ?_)
    · replace h := of_pos hc h
      refine Z_blk k_X2_readRoom 1 (pc' := 40) (lo' := [some (vR 20 15 0), some (vR 34 11 0)]) (st' := [vI 0]) (M1 := x2.2) rfl ?_
      cases h
      exact Z_ret ⟨Or.inr ⟨rfl, Or.inl rfl⟩, _, rfl⟩ rfl
    · replace h := of_neg hc h
      refine Z_blk k_X2_readRoom 1 (pc' := 33) (lo' := [some (vR 20 15 0), some (vR 34 11 0)]) (st' := [vR 20 15 0]) (M1 := x2.2) rfl ?_
      obtain ⟨x3, hx3, h⟩ := Option.bind_eq_some_iff.mp h
      refine Z_callV8 k_X2_readRoom k_X5_takeSemicolon rfl rfl (l_2_42) (ci := 5) rfl [] [] rfl rfl (Nat.le_of_ble_eq_true rfl) (Nat.le_of_ble_eq_true rfl) (e_X5_takeSemicolon (d + 0) x2.2 _ _ hx3) ?_
      refine Z_if k_X2_readRoom rfl 41 rfl (fun hc => ?_) (fun hc => ?_)
      · replace h := of_pos hc h
        obtain ⟨M4, eM4, h⟩ := of_zlet h
        refine Z_blk k_X2_readRoom 6 (pc' := 51) (lo' := [some (vR 20 15 0), some (vR 34 11 0)]) (st' := []) (M1 := M4) (by rw [eM4]; rfl) ?_
        refine Z_blk k_X2_readRoom 1 (pc' := 52) (lo' := [some (vR 20 15 0), some (vR 34 11 0)]) (st' := [vI 1]) (M1 := M4) rfl ?_
        cases h
        exact Z_ret ⟨Or.inr ⟨rfl, Or.inr rfl⟩, _, rfl⟩ rfl
      · replace h := of_neg hc h
        refine Z_blk k_X2_readRoom 1 (pc' := 40) (lo' := [some (vR 20 15 0), some (vR 34 11 0)]) (st' := [vI 0]) (M1 := x3.2) rfl ?_
        cases h
        exact Z_ret ⟨Or.inr ⟨rfl, Or.inl rfl⟩, _, rfl⟩ rfl
  · replace h := of_neg hc h
    refine Z_blk k_X2_readRoom 2 (pc' := 12) (lo' := [some (vR 20 15 0), some (vR 34 11 0)]) (st' := [vI 6, vR 20 15 0]) (M1 := M) rfl ?_
    obtain ⟨x5, hx5, h⟩ := Option.bind_eq_some_iff.mp h
    refine Z_callV8 k_X2_readRoom k_X5_refuse rfl rfl (l_2_58) (ci := 5) rfl [vI 6] [] rfl rfl (Nat.le_of_ble_eq_true rfl) (Nat.le_of_ble_eq_true rfl) (e_X5_refuse (d + 3) 6 M _ _ hx5) ?_
    obtain ⟨hc6, h⟩ := of_grd h
    cases h
    exact Z_ret ⟨Or.inr ⟨rfl, hc6⟩, _, rfl⟩ rfl
theorem l_2_86 : zhas 3170 (Jvm.Cond.methodLink "BellPullHouse$HouseReader" 86 yX1_addWire) = true := by decide +kernel
def f_X2_readWire_106 (a2 : Int) (a3 : Int) (a4 : Int) (M : AM) : Option (Int × AM) := if a4 = (-1) then some (0, M) else ((f_X5_takeSemicolon M).bind fun x1 => if ¬ x1.1 = 0 then ((f_X1_addWire 34 a2 a3 a4 x1.2).bind fun x2 => some (1, x2)) else some (0, x1.2))
theorem e_X2_readWire_106 {Y : List (Nat × Nat)} (d : Nat) (a2 : Int) (a3 : Int) (a4 : Int) (M : AM) (x : Int) (N : AM) (h : f_X2_readWire_106 a2 a3 a4 M = some (x, N)) : Ev Y (d + 4) m_X2_readWire 106 [some (vR 20 15 0), some (vR 34 11 0), some (vI a2), some (vI a3), some (vI a4)] [] M (some (vI x)) N := by
  unfold f_X2_readWire_106 at h
  refine Z_blk k_X2_readWire 2 (pc' := 109) (lo' := [some (vR 20 15 0), some (vR 34 11 0), some (vI a2), some (vI a3), some (vI a4)]) (st' := [vI (-1), vI a4]) (M1 := M) rfl ?_
  refine Z_icmp k_X2_readWire rfl 119 rfl (fun hc => ?_) (fun hc => ?_)
  · replace h := of_pos hc h
    refine Z_blk k_X2_readWire 1 (pc' := 120) (lo' := [some (vR 20 15 0), some (vR 34 11 0), some (vI a2), some (vI a3), some (vI a4)]) (st' := [vI 0]) (M1 := M) rfl ?_
    cases h
    exact Z_ret ⟨Or.inr ⟨rfl, Or.inl rfl⟩, _, rfl⟩ rfl
  · replace h := of_neg hc h
    refine Z_blk k_X2_readWire 1 (pc' := 113) (lo' := [some (vR 20 15 0), some (vR 34 11 0), some (vI a2), some (vI a3), some (vI a4)]) (st' := [vR 20 15 0]) (M1 := M) rfl ?_
    obtain ⟨x1, hx1, h⟩ := Option.bind_eq_some_iff.mp h
    refine Z_callV8 k_X2_readWire k_X5_takeSemicolon rfl rfl (l_2_42) (ci := 5) rfl [] [] rfl rfl (Nat.le_of_ble_eq_true rfl) (Nat.le_of_ble_eq_true rfl) (e_X5_takeSemicolon (d + 0) M _ _ hx1) ?_
    refine Z_if k_X2_readWire rfl 121 rfl (fun hc => ?_) (fun hc => ?_)
    · replace h := of_pos hc h
      refine Z_blk k_X2_readWire 4 (pc' := 126) (lo' := [some (vR 20 15 0), some (vR 34 11 0), some (vI a2), some (vI a3), some (vI a4)]) (st' := [vI a4, vI a3, vI a2, vR 34 11 0]) (M1 := x1.2) rfl ?_
      obtain ⟨x2, hx2, h⟩ := Option.bind_eq_some_iff.mp h
      refine Z_callV8 k_X2_readWire k_X1_addWire rfl rfl (l_2_86) (ci := 1) rfl [vI a2, vI a3, vI a4] [] rfl rfl (Nat.le_of_ble_eq_true rfl) (Nat.le_of_ble_eq_true rfl) (e_X1_addWire (d + 3) 34 a2 a3 a4 x1.2 _ hx2) ?_
      refine Z_blk k_X2_readWire 1 (pc' := 130) (lo' := [some (vR 20 15 0), some (vR 34 11 0), some (vI a2), some (vI a3), some (vI a4)]) (st' := [vI 1]) (M1 := x2) rfl ?_
      cases h
      exact Z_ret ⟨Or.inr ⟨rfl, Or.inr rfl⟩, _, rfl⟩ rfl
    · replace h := of_neg hc h
      refine Z_blk k_X2_readWire 1 (pc' := 120) (lo' := [some (vR 20 15 0), some (vR 34 11 0), some (vI a2), some (vI a3), some (vI a4)]) (st' := [vI 0]) (M1 := x1.2) rfl ?_
      cases h
      exact Z_ret ⟨Or.inr ⟨rfl, Or.inl rfl⟩, _, rfl⟩ rfl
def f_X2_readWire (M : AM) : Option (Int × AM) := if M 34 3 < 10 then ((f_X5_advance M).bind fun x1 => (f_X2_takeNewName (o_add 8 (x1 34 3)) x1).bind fun x2 => if x2.1 = 0 then some (0, x2.2) else ((f_X5_takeKeyword 4 x2.2).bind fun x3 => if ¬ x3.1 = 0 then ((f_X2_takeRoom (-1) x3.2).bind fun x4 => if x4.1 = (-1) then some (0, x4.2) else ((f_X5_takeKeyword 5 x4.2).bind fun x5 => if ¬ x5.1 = 0 then ((f_X2_takeRoom x4.1 x5.2).bind fun x6 => if ¬ x6.1 = (-1) then (if ¬ x6.2 20 3 = 6 then f_X2_readWire_106 x4.1 x6.1 0 x6.2 else ((f_X5_advance x6.2).bind fun x7 => (f_X5_takeNumber 0 9 x7).bind fun x8 => f_X2_readWire_106 x4.1 x6.1 x8.1 x8.2)) else some (0, x6.2)) else some (0, x5.2))) else some (0, x3.2))) else ((f_X5_refuse 6 M).bind fun x9 => if x9.1 = 0 ∨ x9.1 = 1 then some (x9.1, x9.2) else none)
theorem e_X2_readWire {Y : List (Nat × Nat)} (d : Nat) (M : AM) (x : Int) (N : AM) (h : f_X2_readWire M = some (x, N)) : Ev Y (d + 4) m_X2_readWire 0 [some (vR 20 15 0), some (vR 34 11 0), none, none, none] [] M (some (vI x)) N := by
  unfold f_X2_readWire at h
  refine Z_blk k_X2_readWire 3 (pc' := 6) (lo' := [some (vR 20 15 0), some (vR 34 11 0), none, none, none]) (st' := [vI 10, vI (M 34 3)]) (M1 := M) rfl ?_
  refine Z_icmp k_X2_readWire rfl 16 rfl (fun hc => ?_) (fun hc => ?_)
  · replace h := of_pos hc h
    refine Z_blk k_X2_readWire 1 (pc' := 17) (lo' := [some (vR 20 15 0), some (vR 34 11 0), none, none, none]) (st' := [vR 20 15 0]) (M1 := M) rfl ?_
    obtain ⟨x1, hx1, h⟩ := Option.bind_eq_some_iff.mp h
    refine Z_callV8 k_X2_readWire k_X5_advance rfl rfl (l_2_62) (ci := 5) rfl [] [] rfl rfl (Nat.le_of_ble_eq_true rfl) (Nat.le_of_ble_eq_true rfl) (e_X5_advance (d + 1) M _ hx1) ?_
    refine Z_blk k_X2_readWire 6 (pc' := 29) (lo' := [some (vR 20 15 0), some (vR 34 11 0), none, none, none]) (st' := [vI (o_add 8 (x1 34 3)), vR 34 11 0, vR 20 15 0]) (M1 := x1) rfl ?_
    obtain ⟨x2, hx2, h⟩ := Option.bind_eq_some_iff.mp h
    refine Z_callS8 k_X2_readWire k_X2_takeNewName rfl rfl (l_2_72) [vR 20 15 0, vR 34 11 0, vI (o_add 8 (x1 34 3))] [] rfl rfl (Nat.le_of_ble_eq_true rfl) (Nat.le_of_ble_eq_true rfl) (e_X2_takeNewName (d + 0) (o_add 8 (x1 34 3)) x1 _ _ hx2) ?_
    refine Z_if k_X2_readWire rfl 43 rfl (fun hc => ?_) (fun hc => ?_)
    · replace h := of_pos hc h
      refine Z_blk k_X2_readWire 1 (pc' := 44) (lo' := [some (vR 20 15 0), some (vR 34 11 0), none, none, none]) (st' := [vI 0]) (M1 := x2.2) rfl ?_
      cases h
      exact Z_ret ⟨Or.inr ⟨rfl, Or.inl rfl⟩, _, rfl⟩ rfl
    · replace h := of_neg hc h
      refine Z_blk k_X2_readWire 2 (pc' := 37) (lo' := [some (vR 20 15 0), some (vR 34 11 0), none, none, none]) (st' := [vI 4, vR 20 15 0]) (M1 := x2.2) rfl ?_
      obtain ⟨x3, hx3, h⟩ := Option.bind_eq_some_iff.mp h
      refine Z_callV8 k_X2_readWire k_X5_takeKeyword rfl rfl (l_2_79) (ci := 5) rfl [vI 4] [] rfl rfl (Nat.le_of_ble_eq_true rfl) (Nat.le_of_ble_eq_true rfl) (e_X5_takeKeyword (d + 0) 4 x2.2 _ _ hx3) ?_
      refine Z_if k_X2_readWire rfl 45 rfl (fun hc => ?_) (fun hc => ?_)
      · replace h := of_pos hc h
        refine Z_blk k_X2_readWire 3 (pc' := 48) (lo' := [some (vR 20 15 0), some (vR 34 11 0), none, none, none]) (st' := [vI (-1), vR 34 11 0, vR 20 15 0]) (M1 := x3.2) rfl ?_
        obtain ⟨x4, hx4, h⟩ := Option.bind_eq_some_iff.mp h
        refine Z_callS8 k_X2_readWire k_X2_takeRoom rfl rfl (l_2_82) [vR 20 15 0, vR 34 11 0, vI (-1)] [] rfl rfl (Nat.le_of_ble_eq_true rfl) (Nat.le_of_ble_eq_true rfl) (e_X2_takeRoom (d + 0) (-1) x3.2 _ _ hx4) ?_
        refine Z_blk k_X2_readWire 3 (pc' := 54) (lo' := [some (vR 20 15 0), some (vR 34 11 0), some (vI x4.1), none, none]) (st' := [vI (-1), vI x4.1]) (M1 := x4.2) rfl ?_
        refine Z_icmp k_X2_readWire rfl 65 rfl (fun hc => ?_) (fun hc => ?_)
        · replace h := of_pos hc h
          refine Z_blk k_X2_readWire 1 (pc' := 66) (lo' := [some (vR 20 15 0), some (vR 34 11 0), some (vI x4.1), none, none]) (st' := [vI 0]) (M1 := x4.2) rfl ?_
          cases h
          exact Z_ret ⟨Or.inr ⟨rfl, Or.inl rfl⟩, _, rfl⟩ rfl
        · replace h := of_neg hc h
          refine Z_blk k_X2_readWire 2 (pc' := 59) (lo' := [some (vR 20 15 0), some (vR 34 11 0), some (vI x4.1), none, none]) (st' := [vI 5, vR 20 15 0]) (M1 := x4.2) rfl ?_
          obtain ⟨x5, hx5, h⟩ := Option.bind_eq_some_iff.mp h
          refine Z_callV8 k_X2_readWire k_X5_takeKeyword rfl rfl (l_2_79) (ci := 5) rfl [vI 5] [] rfl rfl (Nat.le_of_ble_eq_true rfl) (Nat.le_of_ble_eq_true rfl) (e_X5_takeKeyword (d + 0) 5 x4.2 _ _ hx5) ?_
          refine Z_if k_X2_readWire rfl 67 rfl (fun hc => ?_) (fun hc => ?_)
          · replace h := of_pos hc h
            refine Z_blk k_X2_readWire 3 (pc' := 70) (lo' := [some (vR 20 15 0), some (vR 34 11 0), some (vI x4.1), none, none]) (st' := [vI x4.1, vR 34 11 0, vR 20 15 0]) (M1 := x5.2) rfl ?_
            obtain ⟨x6, hx6, h⟩ := Option.bind_eq_some_iff.mp h
            refine Z_callS8 k_X2_readWire k_X2_takeRoom rfl rfl (l_2_82) [vR 20 15 0, vR 34 11 0, vI x4.1] [] rfl rfl (Nat.le_of_ble_eq_true rfl) (Nat.le_of_ble_eq_true rfl) (e_X2_takeRoom (d + 0) x4.1 x5.2 _ _ hx6) ?_
            refine Z_blk k_X2_readWire 3 (pc' := 76) (lo' := [some (vR 20 15 0), some (vR 34 11 0), some (vI x4.1), some (vI x6.1), none]) (st' := [vI (-1), vI x6.1]) (M1 := x6.2) rfl ?_
            refine Z_icmp k_X2_readWire rfl 81 rfl (fun hc => ?_) (fun hc => ?_)
            · replace h := of_pos hc h
              refine Z_blk k_X2_readWire 5 (pc' := 90) (lo' := [some (vR 20 15 0), some (vR 34 11 0), some (vI x4.1), some (vI x6.1), some (vI 0)]) (st' := [vI 6, vI (x6.2 20 3)]) (M1 := x6.2) rfl ?_
              refine Z_icmp k_X2_readWire rfl 106 rfl (fun hc => ?_) (fun hc => ?_)
              · replace h := of_pos hc h
                refine Z_mask [true, true, true, true, true] (lo0 := [some (vR 20 15 0), some (vR 34 11 0), some (vI x4.1), some (vI x6.1), some (vI 0)]) rfl ?_
                exact e_X2_readWire_106 d x4.1 x6.1 0 x6.2 _ _ h
              · replace h := of_neg hc h
                refine Z_blk k_X2_readWire 1 (pc' := 94) (lo' := [some (vR 20 15 0), some (vR 34 11 0), some (vI x4.1), some (vI x6.1), some (vI 0)]) (st' := [vR 20 15 0]) (M1 := x6.2) rfl ?_
                obtain ⟨x7, hx7, h⟩ := Option.bind_eq_some_iff.mp h
                refine Z_callV8 k_X2_readWire k_X5_advance rfl rfl (l_2_62) (ci := 5) rfl [] [] rfl rfl (Nat.le_of_ble_eq_true rfl) (Nat.le_of_ble_eq_true rfl) (e_X5_advance (d + 1) x6.2 _ hx7) ?_
                refine Z_blk k_X2_readWire 3 (pc' := 101) (lo' := [some (vR 20 15 0), some (vR 34 11 0), some (vI x4.1), some (vI x6.1), some (vI 0)]) (st' := [vI 9, vI 0, vR 20 15 0]) (M1 := x7) rfl ?_
                obtain ⟨x8, hx8, h⟩ := Option.bind_eq_some_iff.mp h
                refine Z_callV8 k_X2_readWire k_X5_takeNumber rfl rfl (l_2_65) (ci := 5) rfl [vI 0, vI 9] [] rfl rfl (Nat.le_of_ble_eq_true rfl) (Nat.le_of_ble_eq_true rfl) (e_X5_takeNumber (d + 0) 0 9 x7 _ _ hx8) ?_
                refine Z_blk k_X2_readWire 1 (pc' := 106) (lo' := [some (vR 20 15 0), some (vR 34 11 0), some (vI x4.1), some (vI x6.1), some (vI x8.1)]) (st' := []) (M1 := x8.2) rfl ?_
                refine Z_mask [true, true, true, true, true] (lo0 := [some (vR 20 15 0), some (vR 34 11 0), some (vI x4.1), some (vI x6.1), some (vI x8.1)]) rfl ?_
                exact e_X2_readWire_106 d x4.1 x6.1 x8.1 x8.2 _ _ h
            · replace h := of_neg hc h
              refine Z_blk k_X2_readWire 1 (pc' := 80) (lo' := [some (vR 20 15 0), some (vR 34 11 0), some (vI x4.1), some (vI x6.1), none]) (st' := [vI 0]) (M1 := x6.2) rfl ?_
              cases h
              exact Z_ret ⟨Or.inr ⟨rfl, Or.inl rfl⟩, _, rfl⟩ rfl
          · replace h := of_neg hc h
            refine Z_blk k_X2_readWire 1 (pc' := 66) (lo' := [some (vR 20 15 0), some (vR 34 11 0), some (vI x4.1), none, none]) (st' := [vI 0]) (M1 := x5.2) rfl ?_
            cases h
            exact Z_ret ⟨Or.inr ⟨rfl, Or.inl rfl⟩, _, rfl⟩ rfl
      · replace h := of_neg hc h
        refine Z_blk k_X2_readWire 1 (pc' := 44) (lo' := [some (vR 20 15 0), some (vR 34 11 0), none, none, none]) (st' := [vI 0]) (M1 := x3.2) rfl ?_
        cases h
        exact Z_ret ⟨Or.inr ⟨rfl, Or.inl rfl⟩, _, rfl⟩ rfl
  · replace h := of_neg hc h
    refine Z_blk k_X2_readWire 2 (pc' := 12) (lo' := [some (vR 20 15 0), some (vR 34 11 0), none, none, none]) (st' := [vI 6, vR 20 15 0]) (M1 := M) rfl ?_
    obtain ⟨x9, hx9, h⟩ := Option.bind_eq_some_iff.mp h
    refine Z_callV8 k_X2_readWire k_X5_refuse rfl rfl (l_2_58) (ci := 5) rfl [vI 6] [] rfl rfl (Nat.le_of_ble_eq_true rfl) (Nat.le_of_ble_eq_true rfl) (e_X5_refuse (d + 3) 6 M _ _ hx9) ?_
    obtain ⟨hc10, h⟩ := of_grd h
    cases h
    exact Z_ret ⟨Or.inr ⟨rfl, hc10⟩, _, rfl⟩ rfl
theorem l_2_39 : zhas 3114 (Jvm.Cond.methodLink "BellPullHouse$HouseReader" 39 yX2_readPower) = true := by decide +kernel
theorem l_2_46 : zhas 3135 (Jvm.Cond.methodLink "BellPullHouse$HouseReader" 46 yX2_readOdds) = true := by decide +kernel
theorem l_2_49 : zhas 3138 (Jvm.Cond.methodLink "BellPullHouse$HouseReader" 49 yX2_readRoom) = true := by decide +kernel
theorem l_2_52 : zhas 3156 (Jvm.Cond.methodLink "BellPullHouse$HouseReader" 52 yX2_readWire) = true := by decide +kernel
theorem l_2_55 : zhas 3174 (Jvm.Cond.methodLink "BellPullHouse$HouseReader" 55 yX2_readCouple) = true := by decide +kernel
def f_X2_readPart (M : AM) : Option (Int × AM) := if M 20 3 = 0 then ((f_X2_readPower M).bind fun x1 => if x1.1 = 0 then some (0, x1.2) else ((f_X5_takeSemicolon x1.2).bind fun x2 => if x2.1 = 0 then some (0, x2.2) else some (1, x2.2))) else (if M 20 3 = 1 then ((f_X2_readOdds M).bind fun x3 => if x3.1 = 0 then some (0, x3.2) else ((f_X5_takeSemicolon x3.2).bind fun x4 => if x4.1 = 0 then some (0, x4.2) else some (1, x4.2))) else (if M 20 3 = 2 then ((f_X2_readRoom M).bind fun x5 => if x5.1 = 0 ∨ x5.1 = 1 then some (x5.1, x5.2) else none) else (if M 20 3 = 3 then ((f_X2_readWire M).bind fun x7 => if x7.1 = 0 ∨ x7.1 = 1 then some (x7.1, x7.2) else none) else (if M 20 3 = 4 then ((f_X5_refuse 2 M).bind fun x9 => if x9.1 = 0 ∨ x9.1 = 1 then some (x9.1, x9.2) else none) else (if M 20 3 = 5 then ((f_X5_refuse 2 M).bind fun x11 => if x11.1 = 0 ∨ x11.1 = 1 then some (x11.1, x11.2) else none) else (if M 20 3 = 6 then ((f_X5_refuse 2 M).bind fun x13 => if x13.1 = 0 ∨ x13.1 = 1 then some (x13.1, x13.2) else none) else (if M 20 3 = 7 then ((f_X2_readCouple M).bind fun x15 => if x15.1 = 0 ∨ x15.1 = 1 then some (x15.1, x15.2) else none) else ((f_X5_refuse 2 M).bind fun x17 => if x17.1 = 0 ∨ x17.1 = 1 then some (x17.1, x17.2) else none))))))))
theorem e_X2_readPart {Y : List (Nat × Nat)} (d : Nat) (M : AM) (x : Int) (N : AM) (h : f_X2_readPart M = some (x, N)) : Ev Y (d + 5) m_X2_readPart 0 [some (vR 20 15 0), some (vR 34 11 0)] [] M (some (vI x)) N := by
  unfold f_X2_readPart at h
  refine Z_blk k_X2_readPart 2 (pc' := 4) (lo' := [some (vR 20 15 0), some (vR 34 11 0)]) (st' := [vI (M 20 3)]) (M1 := M) rfl ?_
  by_cases hs0 : M 20 3 = 0
  · replace h := of_pos hs0 h
    refine Z_tabIn k_X2_readPart rfl 52 (off := 48) (by rw [hs0]; decide) (by rw [hs0]; decide) (by first | (rw [hs0]; done) | (rw [hs0]; rfl)) rfl ?_
    refine Z_blk k_X2_readPart 2 (pc' := 54) (lo' := [some (vR 20 15 0), some (vR 34 11 0)]) (st' := [vR 34 11 0, vR 20 15 0]) (M1 := M) rfl ?_
    obtain ⟨x1, hx1, h⟩ := Option.bind_eq_some_iff.mp h
    refine Z_callS8 k_X2_readPart k_X2_readPower rfl rfl (l_2_39) [vR 20 15 0, vR 34 11 0] [] rfl rfl (Nat.le_of_ble_eq_true rfl) (Nat.le_of_ble_eq_true rfl) (e_X2_readPower (d + 0) M _ _ hx1) ?_
    refine Z_if k_X2_readPart rfl 71 rfl (fun hc => ?_) (fun hc => ?_)
    · replace h := of_pos hc h
      refine Z_blk k_X2_readPart 1 (pc' := 72) (lo' := [some (vR 20 15 0), some (vR 34 11 0)]) (st' := [vI 0]) (M1 := x1.2) rfl ?_
      cases h
      exact Z_ret ⟨Or.inr ⟨rfl, Or.inl rfl⟩, _, rfl⟩ rfl
    · replace h := of_neg hc h
      refine Z_blk k_X2_readPart 1 (pc' := 61) (lo' := [some (vR 20 15 0), some (vR 34 11 0)]) (st' := [vR 20 15 0]) (M1 := x1.2) rfl ?_
      obtain ⟨x2, hx2, h⟩ := Option.bind_eq_some_iff.mp h
      refine Z_callV8 k_X2_readPart k_X5_takeSemicolon rfl rfl (l_2_42) (ci := 5) rfl [] [] rfl rfl (Nat.le_of_ble_eq_true rfl) (Nat.le_of_ble_eq_true rfl) (e_X5_takeSemicolon (d + 1) x1.2 _ _ hx2) ?_
      refine Z_if k_X2_readPart rfl 71 rfl (fun hc => ?_) (fun hc => ?_)
      · replace h := of_pos hc h
        refine Z_blk k_X2_readPart 1 (pc' := 72) (lo' := [some (vR 20 15 0), some (vR 34 11 0)]) (st' := [vI 0]) (M1 := x2.2) rfl ?_
        cases h
        exact Z_ret ⟨Or.inr ⟨rfl, Or.inl rfl⟩, _, rfl⟩ rfl
      · replace h := of_neg hc h
        refine Z_blk k_X2_readPart 2 (pc' := 72) (lo' := [some (vR 20 15 0), some (vR 34 11 0)]) (st' := [vI 1]) (M1 := x2.2) rfl ?_
        cases h
        exact Z_ret ⟨Or.inr ⟨rfl, Or.inr rfl⟩, _, rfl⟩ rfl
  · replace h := of_neg hs0 h
    by_cases hs1 : M 20 3 = 1
    · replace h := of_pos hs1 h
      refine Z_tabIn k_X2_readPart rfl 73 (off := 69) (by rw [hs1]; decide) (by rw [hs1]; decide) (by first | (rw [hs1]; done) | (rw [hs1]; rfl)) rfl ?_
      refine Z_blk k_X2_readPart 2 (pc' := 75) (lo' := [some (vR 20 15 0), some (vR 34 11 0)]) (st' := [vR 34 11 0, vR 20 15 0]) (M1 := M) rfl ?_
      obtain ⟨x3, hx3, h⟩ := Option.bind_eq_some_iff.mp h
      refine Z_callS8 k_X2_readPart k_X2_readOdds rfl rfl (l_2_46) [vR 20 15 0, vR 34 11 0] [] rfl rfl (Nat.le_of_ble_eq_true rfl) (Nat.le_of_ble_eq_true rfl) (e_X2_readOdds (d + 0) M _ _ hx3) ?_
      refine Z_if k_X2_readPart rfl 92 rfl (fun hc => ?_) (fun hc => ?_)
      · replace h := of_pos hc h
        refine Z_blk k_X2_readPart 1 (pc' := 93) (lo' := [some (vR 20 15 0), some (vR 34 11 0)]) (st' := [vI 0]) (M1 := x3.2) rfl ?_
        cases h
        exact Z_ret ⟨Or.inr ⟨rfl, Or.inl rfl⟩, _, rfl⟩ rfl
      · replace h := of_neg hc h
        refine Z_blk k_X2_readPart 1 (pc' := 82) (lo' := [some (vR 20 15 0), some (vR 34 11 0)]) (st' := [vR 20 15 0]) (M1 := x3.2) rfl ?_
        obtain ⟨x4, hx4, h⟩ := Option.bind_eq_some_iff.mp h
        refine Z_callV8 k_X2_readPart k_X5_takeSemicolon rfl rfl (l_2_42) (ci := 5) rfl [] [] rfl rfl (Nat.le_of_ble_eq_true rfl) (Nat.le_of_ble_eq_true rfl) (e_X5_takeSemicolon (d + 1) x3.2 _ _ hx4) ?_
        refine Z_if k_X2_readPart rfl 92 rfl (fun hc => ?_) (fun hc => ?_)
        · replace h := of_pos hc h
          refine Z_blk k_X2_readPart 1 (pc' := 93) (lo' := [some (vR 20 15 0), some (vR 34 11 0)]) (st' := [vI 0]) (M1 := x4.2) rfl ?_
          cases h
          exact Z_ret ⟨Or.inr ⟨rfl, Or.inl rfl⟩, _, rfl⟩ rfl
        · replace h := of_neg hc h
          refine Z_blk k_X2_readPart 2 (pc' := 93) (lo' := [some (vR 20 15 0), some (vR 34 11 0)]) (st' := [vI 1]) (M1 := x4.2) rfl ?_
          cases h
          exact Z_ret ⟨Or.inr ⟨rfl, Or.inr rfl⟩, _, rfl⟩ rfl
    · replace h := of_neg hs1 h
      by_cases hs2 : M 20 3 = 2
      · replace h := of_pos hs2 h
        refine Z_tabIn k_X2_readPart rfl 94 (off := 90) (by rw [hs2]; decide) (by rw [hs2]; decide) (by first | (rw [hs2]; done) | (rw [hs2]; rfl)) rfl ?_
        refine Z_blk k_X2_readPart 2 (pc' := 96) (lo' := [some (vR 20 15 0), some (vR 34 11 0)]) (st' := [vR 34 11 0, vR 20 15 0]) (M1 := M) rfl ?_
        obtain ⟨x5, hx5, h⟩ := Option.bind_eq_some_iff.mp h
        refine Z_callS8 k_X2_readPart k_X2_readRoom rfl rfl (l_2_49) [vR 20 15 0, vR 34 11 0] [] rfl rfl (Nat.le_of_ble_eq_true rfl) (Nat.le_of_ble_eq_true rfl) (e_X2_readRoom (d + 0) M _ _ hx5) ?_
        obtain ⟨hc6, h⟩ := of_grd h
        cases h
        exact Z_ret ⟨Or.inr ⟨rfl, hc6⟩, _, rfl⟩ rfl
      · replace h := of_neg hs2 h
        by_cases hs3 : M 20 3 = 3
        · replace h := of_pos hs3 h
          refine Z_tabIn k_X2_readPart rfl 100 (off := 96) (by rw [hs3]; decide) (by rw [hs3]; decide) (by first | (rw [hs3]; done) | (rw [hs3]; rfl)) rfl ?_
          refine Z_blk k_X2_readPart 2 (pc' := 102) (lo' := [some (vR 20 15 0), some (vR 34 11 0)]) (st' := [vR 34 11 0, vR 20 15 0]) (M1 := M) rfl ?_
          obtain ⟨x7, hx7, h⟩ := Option.bind_eq_some_iff.mp h
          refine Z_callS8 k_X2_readPart k_X2_readWire rfl rfl (l_2_52) [vR 20 15 0, vR 34 11 0] [] rfl rfl (Nat.le_of_ble_eq_true rfl) (Nat.le_of_ble_eq_true rfl) (e_X2_readWire (d + 0) M _ _ hx7) ?_
          obtain ⟨hc8, h⟩ := of_grd h
          cases h
          exact Z_ret ⟨Or.inr ⟨rfl, hc8⟩, _, rfl⟩ rfl
        · replace h := of_neg hs3 h
          by_cases hs4 : M 20 3 = 4
          · replace h := of_pos hs4 h
            refine Z_tabIn k_X2_readPart rfl 112 (off := 108) (by rw [hs4]; decide) (by rw [hs4]; decide) (by first | (rw [hs4]; done) | (rw [hs4]; rfl)) rfl ?_
            refine Z_blk k_X2_readPart 2 (pc' := 114) (lo' := [some (vR 20 15 0), some (vR 34 11 0)]) (st' := [vI 2, vR 20 15 0]) (M1 := M) rfl ?_
            obtain ⟨x9, hx9, h⟩ := Option.bind_eq_some_iff.mp h
            refine Z_callV8 k_X2_readPart k_X5_refuse rfl rfl (l_2_58) (ci := 5) rfl [vI 2] [] rfl rfl (Nat.le_of_ble_eq_true rfl) (Nat.le_of_ble_eq_true rfl) (e_X5_refuse (d + 4) 2 M _ _ hx9) ?_
            obtain ⟨hc10, h⟩ := of_grd h
            cases h
            exact Z_ret ⟨Or.inr ⟨rfl, hc10⟩, _, rfl⟩ rfl
          · replace h := of_neg hs4 h
            by_cases hs5 : M 20 3 = 5
            · replace h := of_pos hs5 h
              refine Z_tabIn k_X2_readPart rfl 112 (off := 108) (by rw [hs5]; decide) (by rw [hs5]; decide) (by first | (rw [hs5]; done) | (rw [hs5]; rfl)) rfl ?_
              refine Z_blk k_X2_readPart 2 (pc' := 114) (lo' := [some (vR 20 15 0), some (vR 34 11 0)]) (st' := [vI 2, vR 20 15 0]) (M1 := M) rfl ?_
              obtain ⟨x11, hx11, h⟩ := Option.bind_eq_some_iff.mp h
              refine Z_callV8 k_X2_readPart k_X5_refuse rfl rfl (l_2_58) (ci := 5) rfl [vI 2] [] rfl rfl (Nat.le_of_ble_eq_true rfl) (Nat.le_of_ble_eq_true rfl) (e_X5_refuse (d + 4) 2 M _ _ hx11) ?_
              obtain ⟨hc12, h⟩ := of_grd h
              cases h
              exact Z_ret ⟨Or.inr ⟨rfl, hc12⟩, _, rfl⟩ rfl
            · replace h := of_neg hs5 h
              by_cases hs6 : M 20 3 = 6
              · replace h := of_pos hs6 h
                refine Z_tabIn k_X2_readPart rfl 112 (off := 108) (by rw [hs6]; decide) (by rw [hs6]; decide) (by first | (rw [hs6]; done) | (rw [hs6]; rfl)) rfl ?_
                refine Z_blk k_X2_readPart 2 (pc' := 114) (lo' := [some (vR 20 15 0), some (vR 34 11 0)]) (st' := [vI 2, vR 20 15 0]) (M1 := M) rfl ?_
                obtain ⟨x13, hx13, h⟩ := Option.bind_eq_some_iff.mp h
                refine Z_callV8 k_X2_readPart k_X5_refuse rfl rfl (l_2_58) (ci := 5) rfl [vI 2] [] rfl rfl (Nat.le_of_ble_eq_true rfl) (Nat.le_of_ble_eq_true rfl) (e_X5_refuse (d + 4) 2 M _ _ hx13) ?_
                obtain ⟨hc14, h⟩ := of_grd h
                cases h
                exact Z_ret ⟨Or.inr ⟨rfl, hc14⟩, _, rfl⟩ rfl
              · replace h := of_neg hs6 h
                by_cases hs7 : M 20 3 = 7
                · replace h := of_pos hs7 h
                  refine Z_tabIn k_X2_readPart rfl 106 (off := 102) (by rw [hs7]; decide) (by rw [hs7]; decide) (by first | (rw [hs7]; done) | (rw [hs7]; rfl)) rfl ?_
                  refine Z_blk k_X2_readPart 2 (pc' := 108) (lo' := [some (vR 20 15 0), some (vR 34 11 0)]) (st' := [vR 34 11 0, vR 20 15 0]) (M1 := M) rfl ?_
                  obtain ⟨x15, hx15, h⟩ := Option.bind_eq_some_iff.mp h
                  refine Z_callS8 k_X2_readPart k_X2_readCouple rfl rfl (l_2_55) [vR 20 15 0, vR 34 11 0] [] rfl rfl (Nat.le_of_ble_eq_true rfl) (Nat.le_of_ble_eq_true rfl) (e_X2_readCouple (d + 0) M _ _ hx15) ?_
                  obtain ⟨hc16, h⟩ := of_grd h
                  cases h
                  exact Z_ret ⟨Or.inr ⟨rfl, hc16⟩, _, rfl⟩ rfl
                · replace h := of_neg hs7 h
                  refine Z_tabOut k_X2_readPart rfl 112 (by omega) rfl ?_
                  refine Z_blk k_X2_readPart 2 (pc' := 114) (lo' := [some (vR 20 15 0), some (vR 34 11 0)]) (st' := [vI 2, vR 20 15 0]) (M1 := M) rfl ?_
                  obtain ⟨x17, hx17, h⟩ := Option.bind_eq_some_iff.mp h
                  refine Z_callV8 k_X2_readPart k_X5_refuse rfl rfl (l_2_58) (ci := 5) rfl [vI 2] [] rfl rfl (Nat.le_of_ble_eq_true rfl) (Nat.le_of_ble_eq_true rfl) (e_X5_refuse (d + 4) 2 M _ _ hx17) ?_
                  obtain ⟨hc18, h⟩ := of_grd h
                  cases h
                  exact Z_ret ⟨Or.inr ⟨rfl, hc18⟩, _, rfl⟩ rfl
def f_X5_start (a1 : Int) (M : AM) : Option (AM) := zlet (am_upd M 20 10 (o_max 0 (o_min a1 (M 20 7)))) fun M1 => zlet (am_upd M1 20 11 0) fun M2 => zlet (am_upd M2 20 5 0) fun M3 => zlet (am_upd M3 20 6 (-1)) fun M4 => (f_X5_advance M4).bind fun x5 => some x5
theorem e_X5_start {Y : List (Nat × Nat)} (d : Nat) (a1 : Int) (M : AM) (N : AM) (h : f_X5_start a1 M = some N) : Ev Y (d + 3) m_X5_start 0 [some (vR 20 15 0), some (vI a1)] [] M none N := by
  unfold f_X5_start at h
  obtain ⟨M1, eM1, h⟩ := of_zlet h
  refine Z_blk k_X5_start 8 (pc' := 16) (lo' := [some (vR 20 15 0), some (vI a1)]) (st' := []) (M1 := M1) (by rw [eM1]; rfl) ?_
  obtain ⟨M2, eM2, h⟩ := of_zlet h
  refine Z_blk k_X5_start 3 (pc' := 21) (lo' := [some (vR 20 15 0), some (vI a1)]) (st' := []) (M1 := M2) (by rw [eM2]; rfl) ?_
  obtain ⟨M3, eM3, h⟩ := of_zlet h
  refine Z_blk k_X5_start 3 (pc' := 26) (lo' := [some (vR 20 15 0), some (vI a1)]) (st' := []) (M1 := M3) (by rw [eM3]; rfl) ?_
  obtain ⟨M4, eM4, h⟩ := of_zlet h
  refine Z_blk k_X5_start 3 (pc' := 31) (lo' := [some (vR 20 15 0), some (vI a1)]) (st' := []) (M1 := M4) (by rw [eM4]; rfl) ?_
  refine Z_blk k_X5_start 1 (pc' := 32) (lo' := [some (vR 20 15 0), some (vI a1)]) (st' := [vR 20 15 0]) (M1 := M4) rfl ?_
  obtain ⟨x5, hx5, h⟩ := Option.bind_eq_some_iff.mp h
  refine Z_callV8 k_X5_start k_X5_advance rfl rfl (l_5_76) (ci := 5) rfl [] [] rfl rfl (Nat.le_of_ble_eq_true rfl) (Nat.le_of_ble_eq_true rfl) (e_X5_advance (d + 0) M4 _ hx5) ?_
  cases h
  exact Z_ret ⟨rfl, _, rfl⟩ rfl
theorem l_2_9 : zhas 3078 (Jvm.Cond.methodLink "BellPullHouse$HouseReader" 9 yX5_start) = true := by decide +kernel
theorem l_2_15 : zhas 3106 (Jvm.Cond.methodLink "BellPullHouse$HouseReader" 15 yX1_clear) = true := by decide +kernel
theorem l_2_32 : zhas 3111 (Jvm.Cond.methodLink "BellPullHouse$HouseReader" 32 yX2_readPart) = true := by decide +kernel
def f_X2_readHouse_67 (s1 : Int) (M : AM) : Option (Int × AM) := zlet (am_upd M 34 0 s1) fun M1 => if ¬ M1 34 1 = (-1) then (zlet (am_upd M1 34 1 (M1 34 1)) fun M2 => some (1, M2)) else (zlet (am_upd M1 34 1 2) fun M3 => some (1, M3))
theorem e_X2_readHouse_67 {Y : List (Nat × Nat)} (d : Nat) (s1 : Int) (M : AM) (x : Int) (N : AM) (h : f_X2_readHouse_67 s1 M = some (x, N)) : Ev Y (d + 6) m_X2_readHouse 67 [none, some (vR 34 11 0), none, none] [vI s1, vR 34 11 0] M (some (vI x)) N := by
  unfold f_X2_readHouse_67 at h
  obtain ⟨M1, eM1, h⟩ := of_zlet h
  refine Z_blk k_X2_readHouse 1 (pc' := 70) (lo' := [none, some (vR 34 11 0), none, none]) (st' := []) (M1 := M1) (by rw [eM1]; rfl) ?_
  refine Z_blk k_X2_readHouse 4 (pc' := 76) (lo' := [none, some (vR 34 11 0), none, none]) (st' := [vI (-1), vI (M1 34 1), vR 34 11 0]) (M1 := M1) rfl ?_
  refine Z_icmp k_X2_readHouse rfl 83 rfl (fun hc => ?_) (fun hc => ?_)
  · replace h := of_pos hc h
    obtain ⟨M2, eM2, h⟩ := of_zlet h
    refine Z_blk k_X2_readHouse 3 (pc' := 90) (lo' := [none, some (vR 34 11 0), none, none]) (st' := []) (M1 := M2) (by rw [eM2]; rfl) ?_
    refine Z_blk k_X2_readHouse 1 (pc' := 91) (lo' := [none, some (vR 34 11 0), none, none]) (st' := [vI 1]) (M1 := M2) rfl ?_
    cases h
    exact Z_ret ⟨Or.inr ⟨rfl, Or.inr rfl⟩, _, rfl⟩ rfl
  · replace h := of_neg hc h
    obtain ⟨M3, eM3, h⟩ := of_zlet h
    refine Z_blk k_X2_readHouse 3 (pc' := 90) (lo' := [none, some (vR 34 11 0), none, none]) (st' := []) (M1 := M3) (by rw [eM3]; rfl) ?_
    refine Z_blk k_X2_readHouse 1 (pc' := 91) (lo' := [none, some (vR 34 11 0), none, none]) (st' := [vI 1]) (M1 := M3) rfl ?_
    cases h
    exact Z_ret ⟨Or.inr ⟨rfl, Or.inr rfl⟩, _, rfl⟩ rfl
def f_X2_readHouse_49 (M : AM) : Option (Int × AM) := if ¬ M 34 0 = (-1) then f_X2_readHouse_67 (M 34 0) M else f_X2_readHouse_67 8 M
theorem e_X2_readHouse_49 {Y : List (Nat × Nat)} (d : Nat) (M : AM) (x : Int) (N : AM) (h : f_X2_readHouse_49 M = some (x, N)) : Ev Y (d + 6) m_X2_readHouse 49 [none, some (vR 34 11 0), none, none] [] M (some (vI x)) N := by
  unfold f_X2_readHouse_49 at h
  refine Z_blk k_X2_readHouse 4 (pc' := 55) (lo' := [none, some (vR 34 11 0), none, none]) (st' := [vI (-1), vI (M 34 0), vR 34 11 0]) (M1 := M) rfl ?_
  refine Z_icmp k_X2_readHouse rfl 63 rfl (fun hc => ?_) (fun hc => ?_)
  · replace h := of_pos hc h
    refine Z_blk k_X2_readHouse 2 (pc' := 67) (lo' := [none, some (vR 34 11 0), none, none]) (st' := [vI (M 34 0), vR 34 11 0]) (M1 := M) rfl ?_
    refine Z_mask [false, true, false, false] (lo0 := [none, some (vR 34 11 0), none, none]) rfl ?_
    exact e_X2_readHouse_67 d (M 34 0) M _ _ h
  · replace h := of_neg hc h
    refine Z_blk k_X2_readHouse 2 (pc' := 67) (lo' := [none, some (vR 34 11 0), none, none]) (st' := [vI 8, vR 34 11 0]) (M1 := M) rfl ?_
    refine Z_mask [false, true, false, false] (lo0 := [none, some (vR 34 11 0), none, none]) rfl ?_
    exact e_X2_readHouse_67 d 8 M _ _ h
def f_X2_readHouse_21 : Nat → Int → Int → AM → Option (Int × AM)
  | 0, _, _, _ => none
  | n + 1, a2, a3, M => if a2 ≤ a3 then f_X2_readHouse_49 M else (if M 20 0 = 0 then f_X2_readHouse_49 M else ((f_X2_readPart M).bind fun x1 => if ¬ x1.1 = 0 then f_X2_readHouse_21 n a2 (o_add a3 1) x1.2 else some (0, x1.2)))
theorem e_X2_readHouse_21 {Y : List (Nat × Nat)} (d : Nat) : ∀ (n : Nat) (a2 : Int) (a3 : Int) (M : AM) (x : Int) (N : AM), f_X2_readHouse_21 n a2 a3 M = some (x, N) → Ev Y (d + 6) m_X2_readHouse 21 [some (vR 20 15 0), some (vR 34 11 0), some (vI a2), some (vI a3)] [] M (some (vI x)) N := by
  intro n
  induction n with
  | zero => intro a2 a3 M x N h; cases h
  | succ n ih =>
    intro a2 a3 M x N h
    simp only [f_X2_readHouse_21] at h
    refine Z_blk k_X2_readHouse 2 (pc' := 23) (lo' := [some (vR 20 15 0), some (vR 34 11 0), some (vI a2), some (vI a3)]) (st' := [vI a2, vI a3]) (M1 := M) rfl ?_
    refine Z_icmp k_X2_readHouse rfl 49 rfl (fun hc => ?_) (fun hc => ?_)
    · replace h := of_pos hc h
      refine Z_mask [false, true, false, false] (lo0 := [none, some (vR 34 11 0), none, none]) rfl ?_
      exact e_X2_readHouse_49 d M _ _ h
    · replace h := of_neg hc h
      refine Z_blk k_X2_readHouse 2 (pc' := 30) (lo' := [some (vR 20 15 0), some (vR 34 11 0), some (vI a2), some (vI a3)]) (st' := [vI (M 20 0)]) (M1 := M) rfl ?_
      refine Z_if k_X2_readHouse rfl 49 rfl (fun hc => ?_) (fun hc => ?_)
      · replace h := of_pos hc h
        refine Z_mask [false, true, false, false] (lo0 := [none, some (vR 34 11 0), none, none]) rfl ?_
        exact e_X2_readHouse_49 d M _ _ h
      · replace h := of_neg hc h
        refine Z_blk k_X2_readHouse 2 (pc' := 35) (lo' := [some (vR 20 15 0), some (vR 34 11 0), some (vI a2), some (vI a3)]) (st' := [vR 34 11 0, vR 20 15 0]) (M1 := M) rfl ?_
        obtain ⟨x1, hx1, h⟩ := Option.bind_eq_some_iff.mp h
        refine Z_callS8 k_X2_readHouse k_X2_readPart rfl rfl (l_2_32) [vR 20 15 0, vR 34 11 0] [] rfl rfl (Nat.le_of_ble_eq_true rfl) (Nat.le_of_ble_eq_true rfl) (e_X2_readPart (d + 0) M _ _ hx1) ?_
        refine Z_if k_X2_readHouse rfl 43 rfl (fun hc => ?_) (fun hc => ?_)
        · replace h := of_pos hc h
          refine Z_blk k_X2_readHouse 2 (pc' := 21) (lo' := [some (vR 20 15 0), some (vR 34 11 0), some (vI a2), some (vI (o_add a3 1))]) (st' := []) (M1 := x1.2) rfl ?_
          refine Z_mask [true, true, true, true] (lo0 := [some (vR 20 15 0), some (vR 34 11 0), some (vI a2), some (vI (o_add a3 1))]) rfl ?_
          exact ih a2 (o_add a3 1) x1.2 _ _ h
        · replace h := of_neg hc h
          refine Z_blk k_X2_readHouse 1 (pc' := 42) (lo' := [some (vR 20 15 0), some (vR 34 11 0), some (vI a2), some (vI a3)]) (st' := [vI 0]) (M1 := x1.2) rfl ?_
          cases h
          exact Z_ret ⟨Or.inr ⟨rfl, Or.inl rfl⟩, _, rfl⟩ rfl
def f_X2_readHouse (a2 : Int) (M : AM) : Option (Int × AM) := (f_X5_start a2 M).bind fun x1 => (f_X1_clear 34 x1).bind fun x2 => zlet (am_upd x2 34 0 (-1)) fun M3 => zlet (am_upd M3 34 1 (-1)) fun M4 => f_X2_readHouse_21 zB a2 0 M4
theorem e_X2_readHouse {Y : List (Nat × Nat)} (d : Nat) (a2 : Int) (M : AM) (x : Int) (N : AM) (h : f_X2_readHouse a2 M = some (x, N)) : Ev Y (d + 6) m_X2_readHouse 0 [some (vR 20 15 0), some (vR 34 11 0), some (vI a2), none] [] M (some (vI x)) N := by
  unfold f_X2_readHouse at h
  refine Z_blk k_X2_readHouse 2 (pc' := 2) (lo' := [some (vR 20 15 0), some (vR 34 11 0), some (vI a2), none]) (st' := [vI a2, vR 20 15 0]) (M1 := M) rfl ?_
  obtain ⟨x1, hx1, h⟩ := Option.bind_eq_some_iff.mp h
  refine Z_callV8 k_X2_readHouse k_X5_start rfl rfl (l_2_9) (ci := 5) rfl [vI a2] [] rfl rfl (Nat.le_of_ble_eq_true rfl) (Nat.le_of_ble_eq_true rfl) (e_X5_start (d + 2) a2 M _ hx1) ?_
  refine Z_blk k_X2_readHouse 1 (pc' := 6) (lo' := [some (vR 20 15 0), some (vR 34 11 0), some (vI a2), none]) (st' := [vR 34 11 0]) (M1 := x1) rfl ?_
  obtain ⟨x2, hx2, h⟩ := Option.bind_eq_some_iff.mp h
  refine Z_callV8 k_X2_readHouse k_X1_clear rfl rfl (l_2_15) (ci := 1) rfl [] [] rfl rfl (Nat.le_of_ble_eq_true rfl) (Nat.le_of_ble_eq_true rfl) (e_X1_clear (d + 4) 34 x1 _ hx2) ?_
  obtain ⟨M3, eM3, h⟩ := of_zlet h
  refine Z_blk k_X2_readHouse 3 (pc' := 14) (lo' := [some (vR 20 15 0), some (vR 34 11 0), some (vI a2), none]) (st' := []) (M1 := M3) (by rw [eM3]; rfl) ?_
  obtain ⟨M4, eM4, h⟩ := of_zlet h
  refine Z_blk k_X2_readHouse 3 (pc' := 19) (lo' := [some (vR 20 15 0), some (vR 34 11 0), some (vI a2), none]) (st' := []) (M1 := M4) (by rw [eM4]; rfl) ?_
  refine Z_blk k_X2_readHouse 2 (pc' := 21) (lo' := [some (vR 20 15 0), some (vR 34 11 0), some (vI a2), some (vI 0)]) (st' := []) (M1 := M4) rfl ?_
  refine Z_mask [true, true, true, true] (lo0 := [some (vR 20 15 0), some (vR 34 11 0), some (vI a2), some (vI 0)]) rfl ?_
  exact e_X2_readHouse_21 d zB a2 0 M4 _ _ h
def f_J6_bitCount_0f7a4 (a0 : Int) (M : AM) : Option (Int × AM) := zlet (o_add (o_and (o_sub a0 (o_and (o_ushr a0 1) 1431655765)) 858993459) (o_and (o_ushr (o_sub a0 (o_and (o_ushr a0 1) 1431655765)) 2) 858993459)) fun v1 => zlet (o_add (o_and (o_add v1 (o_ushr v1 4)) 252645135) (o_ushr (o_and (o_add v1 (o_ushr v1 4)) 252645135) 8)) fun v2 => some (o_and (o_add v2 (o_ushr v2 16)) 63, M)
theorem e_J6_bitCount_0f7a4 {Y : List (Nat × Nat)} (d : Nat) (a0 : Int) (M : AM) (x : Int) (N : AM) (h : f_J6_bitCount_0f7a4 a0 M = some (x, N)) : Ev Y (d + 0) m_J6_bitCount_0f7a4 0 [some (vI a0)] [] M (some (vI x)) N := by
  unfold f_J6_bitCount_0f7a4 at h
  obtain ⟨v1, ev1, h⟩ := of_zlet h
  refine Z_blk k_J6_bitCount_0f7a4 18 (pc' := 24) (lo' := [some (vI v1)]) (st' := []) (M1 := M) (by rw [ev1]; rfl) ?_
  obtain ⟨v2, ev2, h⟩ := of_zlet h
  refine Z_blk k_J6_bitCount_0f7a4 14 (pc' := 41) (lo' := [some (vI v2)]) (st' := []) (M1 := M) (by rw [ev2]; rfl) ?_
  refine Z_blk k_J6_bitCount_0f7a4 9 (pc' := 52) (lo' := [some (vI (o_add v2 (o_ushr v2 16)))]) (st' := [vI (o_and (o_add v2 (o_ushr v2 16)) 63)]) (M1 := M) rfl ?_
  cases h
  exact Z_ret ⟨Or.inl rfl, _, rfl⟩ rfl
theorem l_3_125 : zhas 5206 (Jvm.Cond.methodLink "BellPullHouse$Life" 125 yX1_isWire) = true := by decide +kernel
theorem l_3_135 : zhas 5213 (Jvm.Cond.methodLink "BellPullHouse$Life" 135 yX1_isWhole) = true := by decide +kernel
theorem l_3_138 : zhas 5214 (Jvm.Cond.methodLink "BellPullHouse$Life" 138 yX1_cutWire) = true := by decide +kernel
def f_X3_cutOne (b1 : Nat) (a2 : Int) (M : AM) : Option (Int × AM) := (f_X1_isWire b1 a2 M).bind fun x1 => if x1.1 = 0 then some (0, x1.2) else ((f_X1_isWhole b1 a2 x1.2).bind fun x2 => if ¬ x2.1 = 0 then ((f_X1_cutWire b1 a2 x2.2).bind fun x3 => zlet (am_upd x3 70 (Int.toNat 3) (o_add (x3 70 (Int.toNat 3)) 1)) fun M4 => some (1, M4)) else some (0, x2.2))
theorem e_X3_cutOne {Y : List (Nat × Nat)} (d : Nat) (b1 : Nat) (a2 : Int) (M : AM) (x : Int) (N : AM) (h : f_X3_cutOne b1 a2 M = some (x, N)) : Ev Y (d + 1) m_X3_cutOne 0 [some (vR 69 13 0), some (vR b1 11 0), some (vI a2)] [] M (some (vI x)) N := by
  unfold f_X3_cutOne at h
  refine Z_blk k_X3_cutOne 2 (pc' := 2) (lo' := [some (vR 69 13 0), some (vR b1 11 0), some (vI a2)]) (st' := [vI a2, vR b1 11 0]) (M1 := M) rfl ?_
  obtain ⟨x1, hx1, h⟩ := Option.bind_eq_some_iff.mp h
  refine Z_callV8 k_X3_cutOne k_X1_isWire rfl rfl (l_3_125) (ci := 1) rfl [vI a2] [] rfl rfl (Nat.le_of_ble_eq_true rfl) (Nat.le_of_ble_eq_true rfl) (e_X1_isWire (d + 0) b1 a2 M _ _ hx1) ?_
  refine Z_if k_X3_cutOne rfl 16 rfl (fun hc => ?_) (fun hc => ?_)
  · replace h := of_pos hc h
    refine Z_blk k_X3_cutOne 1 (pc' := 17) (lo' := [some (vR 69 13 0), some (vR b1 11 0), some (vI a2)]) (st' := [vI 0]) (M1 := x1.2) rfl ?_
    cases h
    exact Z_ret ⟨Or.inr ⟨rfl, Or.inl rfl⟩, _, rfl⟩ rfl
  · replace h := of_neg hc h
    refine Z_blk k_X3_cutOne 2 (pc' := 10) (lo' := [some (vR 69 13 0), some (vR b1 11 0), some (vI a2)]) (st' := [vI a2, vR b1 11 0]) (M1 := x1.2) rfl ?_
    obtain ⟨x2, hx2, h⟩ := Option.bind_eq_some_iff.mp h
    refine Z_callV8 k_X3_cutOne k_X1_isWhole rfl rfl (l_3_135) (ci := 1) rfl [vI a2] [] rfl rfl (Nat.le_of_ble_eq_true rfl) (Nat.le_of_ble_eq_true rfl) (e_X1_isWhole (d + 0) b1 a2 x1.2 _ _ hx2) ?_
    refine Z_if k_X3_cutOne rfl 18 rfl (fun hc => ?_) (fun hc => ?_)
    · replace h := of_pos hc h
      refine Z_blk k_X3_cutOne 2 (pc' := 20) (lo' := [some (vR 69 13 0), some (vR b1 11 0), some (vI a2)]) (st' := [vI a2, vR b1 11 0]) (M1 := x2.2) rfl ?_
      obtain ⟨x3, hx3, h⟩ := Option.bind_eq_some_iff.mp h
      refine Z_callV8 k_X3_cutOne k_X1_cutWire rfl rfl (l_3_138) (ci := 1) rfl [vI a2] [] rfl rfl (Nat.le_of_ble_eq_true rfl) (Nat.le_of_ble_eq_true rfl) (e_X1_cutWire (d + 0) b1 a2 x2.2 _ hx3) ?_
      refine Z_blk k_X3_cutOne 4 (pc' := 29) (lo' := [some (vR 69 13 0), some (vR b1 11 0), some (vI a2)]) (st' := [vI 3, vR 70 0 5, vI 3, vR 70 0 5]) (M1 := x3) rfl ?_
      refine Z_one k_X3_cutOne rfl (pc' := 30) (lo' := [some (vR 69 13 0), some (vR b1 11 0), some (vI a2)]) (st' := [vI (x3 70 (Int.toNat 3)), vI 3, vR 70 0 5]) (M1 := x3) (rfl) ?_
      refine Z_blk k_X3_cutOne 2 (pc' := 32) (lo' := [some (vR 69 13 0), some (vR b1 11 0), some (vI a2)]) (st' := [vI (o_add (x3 70 (Int.toNat 3)) 1), vI 3, vR 70 0 5]) (M1 := x3) rfl ?_
      obtain ⟨M4, eM4, h⟩ := of_zlet h
      refine Z_one k_X3_cutOne rfl (pc' := 33) (lo' := [some (vR 69 13 0), some (vR b1 11 0), some (vI a2)]) (st' := []) (M1 := M4) (by rw [eM4]; exact rfl) ?_
      refine Z_blk k_X3_cutOne 1 (pc' := 34) (lo' := [some (vR 69 13 0), some (vR b1 11 0), some (vI a2)]) (st' := [vI 1]) (M1 := M4) rfl ?_
      cases h
      exact Z_ret ⟨Or.inr ⟨rfl, Or.inr rfl⟩, _, rfl⟩ rfl
    · replace h := of_neg hc h
      refine Z_blk k_X3_cutOne 1 (pc' := 17) (lo' := [some (vR 69 13 0), some (vR b1 11 0), some (vI a2)]) (st' := [vI 0]) (M1 := x2.2) rfl ?_
      cases h
      exact Z_ret ⟨Or.inr ⟨rfl, Or.inl rfl⟩, _, rfl⟩ rfl
def f_X3_drawBy (a1 : Int) (M : AM) : Option (Int × AM) := zlet (am_upd M 69 4 (o_rem (o_add (o_mul (M 69 4) 2971) 10859) 65536)) fun M1 => if a1 ≤ 0 then some (0, M1) else (if a1 ≠ 0 then some (o_rem (o_div (M1 69 4) 8) a1, M1) else none)
theorem e_X3_drawBy {Y : List (Nat × Nat)} (d : Nat) (a1 : Int) (M : AM) (x : Int) (N : AM) (h : f_X3_drawBy a1 M = some (x, N)) : Ev Y (d + 0) m_X3_drawBy 0 [some (vR 69 13 0), some (vI a1)] [] M (some (vI x)) N := by
  unfold f_X3_drawBy at h
  refine Z_blk k_X3_drawBy 8 (pc' := 15) (lo' := [some (vR 69 13 0), some (vI a1)]) (st' := [vI 65536, vI (o_add (o_mul (M 69 4) 2971) 10859), vR 69 13 0]) (M1 := M) rfl ?_
  refine Z_one k_X3_drawBy rfl (pc' := 16) (lo' := [some (vR 69 13 0), some (vI a1)]) (st' := [vI (o_rem (o_add (o_mul (M 69 4) 2971) 10859) 65536), vR 69 13 0]) (M1 := M) (rfl) ?_
  obtain ⟨M1, eM1, h⟩ := of_zlet h
  refine Z_blk k_X3_drawBy 1 (pc' := 19) (lo' := [some (vR 69 13 0), some (vI a1)]) (st' := []) (M1 := M1) (by rw [eM1]; rfl) ?_
  refine Z_blk k_X3_drawBy 1 (pc' := 20) (lo' := [some (vR 69 13 0), some (vI a1)]) (st' := [vI a1]) (M1 := M1) rfl ?_
  refine Z_if k_X3_drawBy rfl 35 rfl (fun hc => ?_) (fun hc => ?_)
  · replace h := of_pos hc h
    refine Z_blk k_X3_drawBy 1 (pc' := 36) (lo' := [some (vR 69 13 0), some (vI a1)]) (st' := [vI 0]) (M1 := M1) rfl ?_
    cases h
    exact Z_ret ⟨Or.inl rfl, _, rfl⟩ rfl
  · replace h := of_neg hc h
    refine Z_blk k_X3_drawBy 3 (pc' := 29) (lo' := [some (vR 69 13 0), some (vI a1)]) (st' := [vI 8, vI (M1 69 4)]) (M1 := M1) rfl ?_
    refine Z_one k_X3_drawBy rfl (pc' := 30) (lo' := [some (vR 69 13 0), some (vI a1)]) (st' := [vI (o_div (M1 69 4) 8)]) (M1 := M1) (rfl) ?_
    refine Z_blk k_X3_drawBy 1 (pc' := 31) (lo' := [some (vR 69 13 0), some (vI a1)]) (st' := [vI a1, vI (o_div (M1 69 4) 8)]) (M1 := M1) rfl ?_
    obtain ⟨hc2, h⟩ := of_grd h
    refine Z_one k_X3_drawBy rfl (pc' := 32) (lo' := [some (vR 69 13 0), some (vI a1)]) (st' := [vI (o_rem (o_div (M1 69 4) 8) a1)]) (M1 := M1) (if_pos hc2) ?_
    refine Z_blk k_X3_drawBy 1 (pc' := 36) (lo' := [some (vR 69 13 0), some (vI a1)]) (st' := [vI (o_rem (o_div (M1 69 4) 8) a1)]) (M1 := M1) rfl ?_
    cases h
    exact Z_ret ⟨Or.inl rfl, _, rfl⟩ rfl
theorem l_3_91 : zhas 5209 (Jvm.Cond.methodLink "BellPullHouse$Life" 91 yX3_cutOne) = true := by decide +kernel
theorem l_3_144 : zhas 5219 (Jvm.Cond.methodLink "BellPullHouse$Life" 144 yX3_drawBy) = true := by decide +kernel
theorem l_3_153 : zhas 5224 (Jvm.Cond.methodLink "BellPullHouse$Life" 153 yX1_setSlack) = true := by decide +kernel
def f_X3_hurtAny_37 (b1 : Nat) (a2 : Int) (s0 : Int) (M : AM) : Option (Int × AM) := (f_X1_isWhole b1 a2 M).bind fun x1 => if ¬ x1.1 = 0 then (if s0 = 0 then (if 0 ≤ a2 ∧ a2 < 10 then (if x1.2 (b1 + 3) (Int.toNat a2) < 9 then ((f_X1_setSlack b1 a2 (o_add (x1.2 (b1 + 3) (Int.toNat a2)) 1) x1.2).bind fun x3 => some (1, x3)) else some (0, x1.2)) else none) else ((f_X3_cutOne b1 a2 x1.2).bind fun x4 => if x4.1 = 0 ∨ x4.1 = 1 then some (x4.1, x4.2) else none)) else some (0, x1.2)
theorem e_X3_hurtAny_37 {Y : List (Nat × Nat)} (d : Nat) (b1 : Nat) (a2 : Int) (s0 : Int) (M : AM) (x : Int) (N : AM) (h : f_X3_hurtAny_37 b1 a2 s0 M = some (x, N)) : Ev Y (d + 2) m_X3_hurtAny 37 [some (vR 69 13 0), some (vR b1 11 0), some (vI a2), none] [vI s0] M (some (vI x)) N := by
  unfold f_X3_hurtAny_37 at h
  refine Z_blk k_X3_hurtAny 3 (pc' := 40) (lo' := [some (vR 69 13 0), some (vR b1 11 0), some (vI a2), some (vI s0)]) (st' := [vI a2, vR b1 11 0]) (M1 := M) rfl ?_
  obtain ⟨x1, hx1, h⟩ := Option.bind_eq_some_iff.mp h
  refine Z_callV8 k_X3_hurtAny k_X1_isWhole rfl rfl (l_3_135) (ci := 1) rfl [vI a2] [] rfl rfl (Nat.le_of_ble_eq_true rfl) (Nat.le_of_ble_eq_true rfl) (e_X1_isWhole (d + 1) b1 a2 M _ _ hx1) ?_
  refine Z_if k_X3_hurtAny rfl 48 rfl (fun hc => ?_) (fun hc => ?_)
  · replace h := of_pos hc h
    refine Z_blk k_X3_hurtAny 1 (pc' := 49) (lo' := [some (vR 69 13 0), some (vR b1 11 0), some (vI a2), some (vI s0)]) (st' := [vI s0]) (M1 := x1.2) rfl ?_
    refine Z_if k_X3_hurtAny rfl 59 rfl (fun hc => ?_) (fun hc => ?_)
    · replace h := of_pos hc h
      refine Z_blk k_X3_hurtAny 3 (pc' := 64) (lo' := [some (vR 69 13 0), some (vR b1 11 0), some (vI a2), some (vI s0)]) (st' := [vI a2, vR (b1 + 3) 0 10]) (M1 := x1.2) rfl ?_
      obtain ⟨hc2, h⟩ := of_grd h
      refine Z_one k_X3_hurtAny rfl (pc' := 65) (lo' := [some (vR 69 13 0), some (vR b1 11 0), some (vI a2), some (vI s0)]) (st' := [vI (x1.2 (b1 + 3) (Int.toNat a2))]) (M1 := x1.2) (if_pos hc2) ?_
      refine Z_blk k_X3_hurtAny 1 (pc' := 67) (lo' := [some (vR 69 13 0), some (vR b1 11 0), some (vI a2), some (vI s0)]) (st' := [vI 9, vI (x1.2 (b1 + 3) (Int.toNat a2))]) (M1 := x1.2) rfl ?_
      refine Z_icmp k_X3_hurtAny rfl 72 rfl (fun hc => ?_) (fun hc => ?_)
      · replace h := of_pos hc h
        refine Z_blk k_X3_hurtAny 5 (pc' := 79) (lo' := [some (vR 69 13 0), some (vR b1 11 0), some (vI a2), some (vI s0)]) (st' := [vI a2, vR (b1 + 3) 0 10, vI a2, vR b1 11 0]) (M1 := x1.2) rfl ?_
        refine Z_one k_X3_hurtAny rfl (pc' := 80) (lo' := [some (vR 69 13 0), some (vR b1 11 0), some (vI a2), some (vI s0)]) (st' := [vI (x1.2 (b1 + 3) (Int.toNat a2)), vI a2, vR b1 11 0]) (M1 := x1.2) (if_pos hc2) ?_
        refine Z_blk k_X3_hurtAny 2 (pc' := 82) (lo' := [some (vR 69 13 0), some (vR b1 11 0), some (vI a2), some (vI s0)]) (st' := [vI (o_add (x1.2 (b1 + 3) (Int.toNat a2)) 1), vI a2, vR b1 11 0]) (M1 := x1.2) rfl ?_
        obtain ⟨x3, hx3, h⟩ := Option.bind_eq_some_iff.mp h
        refine Z_callV8 k_X3_hurtAny k_X1_setSlack rfl rfl (l_3_153) (ci := 1) rfl [vI a2, vI (o_add (x1.2 (b1 + 3) (Int.toNat a2)) 1)] [] rfl rfl (Nat.le_of_ble_eq_true rfl) (Nat.le_of_ble_eq_true rfl) (e_X1_setSlack (d + 0) b1 a2 (o_add (x1.2 (b1 + 3) (Int.toNat a2)) 1) x1.2 _ hx3) ?_
        refine Z_blk k_X3_hurtAny 1 (pc' := 86) (lo' := [some (vR 69 13 0), some (vR b1 11 0), some (vI a2), some (vI s0)]) (st' := [vI 1]) (M1 := x3) rfl ?_
        cases h
        exact Z_ret ⟨Or.inr ⟨rfl, Or.inr rfl⟩, _, rfl⟩ rfl
      · replace h := of_neg hc h
        refine Z_blk k_X3_hurtAny 1 (pc' := 71) (lo' := [some (vR 69 13 0), some (vR b1 11 0), some (vI a2), some (vI s0)]) (st' := [vI 0]) (M1 := x1.2) rfl ?_
        cases h
        exact Z_ret ⟨Or.inr ⟨rfl, Or.inl rfl⟩, _, rfl⟩ rfl
    · replace h := of_neg hc h
      refine Z_blk k_X3_hurtAny 3 (pc' := 55) (lo' := [some (vR 69 13 0), some (vR b1 11 0), some (vI a2), some (vI s0)]) (st' := [vI a2, vR b1 11 0, vR 69 13 0]) (M1 := x1.2) rfl ?_
      obtain ⟨x4, hx4, h⟩ := Option.bind_eq_some_iff.mp h
      refine Z_callV8 k_X3_hurtAny k_X3_cutOne rfl rfl (l_3_91) (ci := 3) rfl [vR b1 11 0, vI a2] [] rfl rfl (Nat.le_of_ble_eq_true rfl) (Nat.le_of_ble_eq_true rfl) (e_X3_cutOne (d + 0) b1 a2 x1.2 _ _ hx4) ?_
      obtain ⟨hc5, h⟩ := of_grd h
      cases h
      exact Z_ret ⟨Or.inr ⟨rfl, hc5⟩, _, rfl⟩ rfl
  · replace h := of_neg hc h
    refine Z_blk k_X3_hurtAny 1 (pc' := 47) (lo' := [some (vR 69 13 0), some (vR b1 11 0), some (vI a2), some (vI s0)]) (st' := [vI 0]) (M1 := x1.2) rfl ?_
    cases h
    exact Z_ret ⟨Or.inr ⟨rfl, Or.inl rfl⟩, _, rfl⟩ rfl
def f_X3_hurtAny (b1 : Nat) (M : AM) : Option (Int × AM) := if 1 ≤ M b1 3 then ((f_X3_drawBy (M b1 3) M).bind fun x1 => (f_X3_drawBy 16 x1.2).bind fun x2 => if x2.2 b1 1 ≤ x2.1 then f_X3_hurtAny_37 b1 x1.1 0 x2.2 else f_X3_hurtAny_37 b1 x1.1 1 x2.2) else some (0, M)
theorem e_X3_hurtAny {Y : List (Nat × Nat)} (d : Nat) (b1 : Nat) (M : AM) (x : Int) (N : AM) (h : f_X3_hurtAny b1 M = some (x, N)) : Ev Y (d + 2) m_X3_hurtAny 0 [some (vR 69 13 0), some (vR b1 11 0), none, none] [] M (some (vI x)) N := by
  unfold f_X3_hurtAny at h
  refine Z_blk k_X3_hurtAny 3 (pc' := 5) (lo' := [some (vR 69 13 0), some (vR b1 11 0), none, none]) (st' := [vI 1, vI (M b1 3)]) (M1 := M) rfl ?_
  refine Z_icmp k_X3_hurtAny rfl 10 rfl (fun hc => ?_) (fun hc => ?_)
  · replace h := of_pos hc h
    refine Z_blk k_X3_hurtAny 3 (pc' := 15) (lo' := [some (vR 69 13 0), some (vR b1 11 0), none, none]) (st' := [vI (M b1 3), vR 69 13 0]) (M1 := M) rfl ?_
    obtain ⟨x1, hx1, h⟩ := Option.bind_eq_some_iff.mp h
    refine Z_callV8 k_X3_hurtAny k_X3_drawBy rfl rfl (l_3_144) (ci := 3) rfl [vI (M b1 3)] [] rfl rfl (Nat.le_of_ble_eq_true rfl) (Nat.le_of_ble_eq_true rfl) (e_X3_drawBy (d + 1) (M b1 3) M _ _ hx1) ?_
    refine Z_blk k_X3_hurtAny 3 (pc' := 22) (lo' := [some (vR 69 13 0), some (vR b1 11 0), some (vI x1.1), none]) (st' := [vI 16, vR 69 13 0]) (M1 := x1.2) rfl ?_
    obtain ⟨x2, hx2, h⟩ := Option.bind_eq_some_iff.mp h
    refine Z_callV8 k_X3_hurtAny k_X3_drawBy rfl rfl (l_3_144) (ci := 3) rfl [vI 16] [] rfl rfl (Nat.le_of_ble_eq_true rfl) (Nat.le_of_ble_eq_true rfl) (e_X3_drawBy (d + 1) 16 x1.2 _ _ hx2) ?_
    refine Z_blk k_X3_hurtAny 2 (pc' := 29) (lo' := [some (vR 69 13 0), some (vR b1 11 0), some (vI x1.1), none]) (st' := [vI (x2.2 b1 1), vI x2.1]) (M1 := x2.2) rfl ?_
    refine Z_icmp k_X3_hurtAny rfl 36 rfl (fun hc => ?_) (fun hc => ?_)
    · replace h := of_pos hc h
      refine Z_blk k_X3_hurtAny 1 (pc' := 37) (lo' := [some (vR 69 13 0), some (vR b1 11 0), some (vI x1.1), none]) (st' := [vI 0]) (M1 := x2.2) rfl ?_
      refine Z_mask [true, true, true, false] (lo0 := [some (vR 69 13 0), some (vR b1 11 0), some (vI x1.1), none]) rfl ?_
      exact e_X3_hurtAny_37 d b1 x1.1 0 x2.2 _ _ h
    · replace h := of_neg hc h
      refine Z_blk k_X3_hurtAny 2 (pc' := 37) (lo' := [some (vR 69 13 0), some (vR b1 11 0), some (vI x1.1), none]) (st' := [vI 1]) (M1 := x2.2) rfl ?_
      refine Z_mask [true, true, true, false] (lo0 := [some (vR 69 13 0), some (vR b1 11 0), some (vI x1.1), none]) rfl ?_
      exact e_X3_hurtAny_37 d b1 x1.1 1 x2.2 _ _ h
  · replace h := of_neg hc h
    refine Z_blk k_X3_hurtAny 1 (pc' := 9) (lo' := [some (vR 69 13 0), some (vR b1 11 0), none, none]) (st' := [vI 0]) (M1 := M) rfl ?_
    cases h
    exact Z_ret ⟨Or.inr ⟨rfl, Or.inl rfl⟩, _, rfl⟩ rfl
def f_X3_compares (a0 : Int) (a1 : Int) (a2 : Int) (M : AM) : Option (Int × AM) := if ¬ a1 = 60 then (if ¬ a1 = 62 then (if ¬ a0 = a2 then some (0, M) else some (1, M)) else (if a0 ≤ a2 then some (0, M) else some (1, M))) else (if a2 ≤ a0 then some (0, M) else some (1, M))
theorem e_X3_compares {Y : List (Nat × Nat)} (d : Nat) (a0 : Int) (a1 : Int) (a2 : Int) (M : AM) (x : Int) (N : AM) (h : f_X3_compares a0 a1 a2 M = some (x, N)) : Ev Y (d + 0) m_X3_compares 0 [some (vI a0), some (vI a1), some (vI a2)] [] M (some (vI x)) N := by
  unfold f_X3_compares at h
  refine Z_blk k_X3_compares 2 (pc' := 3) (lo' := [some (vI a0), some (vI a1), some (vI a2)]) (st' := [vI 60, vI a1]) (M1 := M) rfl ?_
  refine Z_icmp k_X3_compares rfl 17 rfl (fun hc => ?_) (fun hc => ?_)
  · replace h := of_pos hc h
    refine Z_blk k_X3_compares 2 (pc' := 20) (lo' := [some (vI a0), some (vI a1), some (vI a2)]) (st' := [vI 62, vI a1]) (M1 := M) rfl ?_
    refine Z_icmp k_X3_compares rfl 36 rfl (fun hc => ?_) (fun hc => ?_)
    · replace h := of_pos hc h
      refine Z_blk k_X3_compares 2 (pc' := 38) (lo' := [some (vI a0), some (vI a1), some (vI a2)]) (st' := [vI a2, vI a0]) (M1 := M) rfl ?_
      refine Z_icmp k_X3_compares rfl 45 rfl (fun hc => ?_) (fun hc => ?_)
      · replace h := of_pos hc h
        refine Z_blk k_X3_compares 1 (pc' := 46) (lo' := [some (vI a0), some (vI a1), some (vI a2)]) (st' := [vI 0]) (M1 := M) rfl ?_
        cases h
        exact Z_ret ⟨Or.inr ⟨rfl, Or.inl rfl⟩, _, rfl⟩ rfl
      · replace h := of_neg hc h
        refine Z_blk k_X3_compares 2 (pc' := 46) (lo' := [some (vI a0), some (vI a1), some (vI a2)]) (st' := [vI 1]) (M1 := M) rfl ?_
        cases h
        exact Z_ret ⟨Or.inr ⟨rfl, Or.inr rfl⟩, _, rfl⟩ rfl
    · replace h := of_neg hc h
      refine Z_blk k_X3_compares 2 (pc' := 25) (lo' := [some (vI a0), some (vI a1), some (vI a2)]) (st' := [vI a2, vI a0]) (M1 := M) rfl ?_
      refine Z_icmp k_X3_compares rfl 32 rfl (fun hc => ?_) (fun hc => ?_)
      · replace h := of_pos hc h
        refine Z_blk k_X3_compares 2 (pc' := 46) (lo' := [some (vI a0), some (vI a1), some (vI a2)]) (st' := [vI 0]) (M1 := M) rfl ?_
        cases h
        exact Z_ret ⟨Or.inr ⟨rfl, Or.inl rfl⟩, _, rfl⟩ rfl
      · replace h := of_neg hc h
        refine Z_blk k_X3_compares 2 (pc' := 46) (lo' := [some (vI a0), some (vI a1), some (vI a2)]) (st' := [vI 1]) (M1 := M) rfl ?_
        cases h
        exact Z_ret ⟨Or.inr ⟨rfl, Or.inr rfl⟩, _, rfl⟩ rfl
  · replace h := of_neg hc h
    refine Z_blk k_X3_compares 2 (pc' := 8) (lo' := [some (vI a0), some (vI a1), some (vI a2)]) (st' := [vI a2, vI a0]) (M1 := M) rfl ?_
    refine Z_icmp k_X3_compares rfl 15 rfl (fun hc => ?_) (fun hc => ?_)
    · replace h := of_pos hc h
      refine Z_blk k_X3_compares 1 (pc' := 16) (lo' := [some (vI a0), some (vI a1), some (vI a2)]) (st' := [vI 0]) (M1 := M) rfl ?_
      cases h
      exact Z_ret ⟨Or.inr ⟨rfl, Or.inl rfl⟩, _, rfl⟩ rfl
    · replace h := of_neg hc h
      refine Z_blk k_X3_compares 2 (pc' := 16) (lo' := [some (vI a0), some (vI a1), some (vI a2)]) (st' := [vI 1]) (M1 := M) rfl ?_
      cases h
      exact Z_ret ⟨Or.inr ⟨rfl, Or.inr rfl⟩, _, rfl⟩ rfl
theorem l_3_98 : zhas 5192 (Jvm.Cond.methodLink "BellPullHouse$Life" 98 yX1_isCouple) = true := by decide +kernel
theorem l_3_105 : zhas 5193 (Jvm.Cond.methodLink "BellPullHouse$Life" 105 yX1_isRung) = true := by decide +kernel
theorem l_3_108 : zhas 5194 (Jvm.Cond.methodLink "BellPullHouse$Life" 108 yX1_isHolding) = true := by decide +kernel
theorem l_3_117 : zhas 5195 (Jvm.Cond.methodLink "BellPullHouse$Life" 117 yX3_compares) = true := by decide +kernel
def f_X3_isSo (b1 : Nat) (a3 : Int) (M : AM) : Option (Int × AM) := if 0 ≤ a3 ∧ a3 < 60 then ((f_X1_isCouple b1 (M 48 (Int.toNat a3)) M).bind fun x2 => if ¬ x2.1 = 0 then (if x2.2 47 (Int.toNat a3) = 18 then ((f_X1_isRung b1 (M 48 (Int.toNat a3)) x2.2).bind fun x3 => if x3.1 = 0 ∨ x3.1 = 1 then some (x3.1, x3.2) else none) else (if x2.2 47 (Int.toNat a3) = 19 then ((f_X1_isHolding b1 (M 48 (Int.toNat a3)) x2.2).bind fun x5 => if ¬ x5.1 = 0 then some (0, x5.2) else some (1, x5.2)) else (if 0 ≤ M 48 (Int.toNat a3) ∧ M 48 (Int.toNat a3) < 6 then ((f_X3_compares (x2.2 (b1 + 6) (Int.toNat (M 48 (Int.toNat a3)))) (x2.2 49 (Int.toNat a3)) (x2.2 50 (Int.toNat a3)) x2.2).bind fun x7 => if x7.1 = 0 ∨ x7.1 = 1 then some (x7.1, x7.2) else none) else none))) else some (0, x2.2)) else none
theorem e_X3_isSo {Y : List (Nat × Nat)} (d : Nat) (b1 : Nat) (a3 : Int) (M : AM) (x : Int) (N : AM) (h : f_X3_isSo b1 a3 M = some (x, N)) : Ev Y (d + 4) m_X3_isSo 0 [some (vR 69 13 0), some (vR b1 11 0), some (vR 45 18 0), some (vI a3), none] [] M (some (vI x)) N := by
  unfold f_X3_isSo at h
  refine Z_blk k_X3_isSo 3 (pc' := 5) (lo' := [some (vR 69 13 0), some (vR b1 11 0), some (vR 45 18 0), some (vI a3), none]) (st' := [vI a3, vR 48 0 60]) (M1 := M) rfl ?_
  obtain ⟨hc1, h⟩ := of_grd h
  refine Z_one k_X3_isSo rfl (pc' := 6) (lo' := [some (vR 69 13 0), some (vR b1 11 0), some (vR 45 18 0), some (vI a3), none]) (st' := [vI (M 48 (Int.toNat a3))]) (M1 := M) (if_pos hc1) ?_
  refine Z_blk k_X3_isSo 3 (pc' := 11) (lo' := [some (vR 69 13 0), some (vR b1 11 0), some (vR 45 18 0), some (vI a3), some (vI (M 48 (Int.toNat a3)))]) (st' := [vI (M 48 (Int.toNat a3)), vR b1 11 0]) (M1 := M) rfl ?_
  obtain ⟨x2, hx2, h⟩ := Option.bind_eq_some_iff.mp h
  refine Z_callV8 k_X3_isSo k_X1_isCouple rfl rfl (l_3_98) (ci := 1) rfl [vI (M 48 (Int.toNat a3))] [] rfl rfl (Nat.le_of_ble_eq_true rfl) (Nat.le_of_ble_eq_true rfl) (e_X1_isCouple (d + 3) b1 (M 48 (Int.toNat a3)) M _ _ hx2) ?_
  refine Z_if k_X3_isSo rfl 19 rfl (fun hc => ?_) (fun hc => ?_)
  · replace h := of_pos hc h
    refine Z_blk k_X3_isSo 3 (pc' := 24) (lo' := [some (vR 69 13 0), some (vR b1 11 0), some (vR 45 18 0), some (vI a3), some (vI (M 48 (Int.toNat a3)))]) (st' := [vI a3, vR 47 0 60]) (M1 := x2.2) rfl ?_
    refine Z_one k_X3_isSo rfl (pc' := 25) (lo' := [some (vR 69 13 0), some (vR b1 11 0), some (vR 45 18 0), some (vI a3), some (vI (M 48 (Int.toNat a3)))]) (st' := [vI (x2.2 47 (Int.toNat a3))]) (M1 := x2.2) (if_pos hc1) ?_
    by_cases hs0 : x2.2 47 (Int.toNat a3) = 18
    · replace h := of_pos hs0 h
      refine Z_look k_X3_isSo rfl 52 (off := 27) (by first | (rw [hs0]; done) | (rw [hs0]; rfl)) rfl ?_
      refine Z_blk k_X3_isSo 2 (pc' := 55) (lo' := [some (vR 69 13 0), some (vR b1 11 0), some (vR 45 18 0), some (vI a3), some (vI (M 48 (Int.toNat a3)))]) (st' := [vI (M 48 (Int.toNat a3)), vR b1 11 0]) (M1 := x2.2) rfl ?_
      obtain ⟨x3, hx3, h⟩ := Option.bind_eq_some_iff.mp h
      refine Z_callV8 k_X3_isSo k_X1_isRung rfl rfl (l_3_105) (ci := 1) rfl [vI (M 48 (Int.toNat a3))] [] rfl rfl (Nat.le_of_ble_eq_true rfl) (Nat.le_of_ble_eq_true rfl) (e_X1_isRung (d + 0) b1 (M 48 (Int.toNat a3)) x2.2 _ _ hx3) ?_
      obtain ⟨hc4, h⟩ := of_grd h
      cases h
      exact Z_ret ⟨Or.inr ⟨rfl, hc4⟩, _, rfl⟩ rfl
    · replace h := of_neg hs0 h
      by_cases hs1 : x2.2 47 (Int.toNat a3) = 19
      · replace h := of_pos hs1 h
        refine Z_look k_X3_isSo rfl 59 (off := 34) (by first | (rw [hs1]; done) | (rw [hs1]; rfl)) rfl ?_
        refine Z_blk k_X3_isSo 2 (pc' := 62) (lo' := [some (vR 69 13 0), some (vR b1 11 0), some (vR 45 18 0), some (vI a3), some (vI (M 48 (Int.toNat a3)))]) (st' := [vI (M 48 (Int.toNat a3)), vR b1 11 0]) (M1 := x2.2) rfl ?_
        obtain ⟨x5, hx5, h⟩ := Option.bind_eq_some_iff.mp h
        refine Z_callV8 k_X3_isSo k_X1_isHolding rfl rfl (l_3_108) (ci := 1) rfl [vI (M 48 (Int.toNat a3))] [] rfl rfl (Nat.le_of_ble_eq_true rfl) (Nat.le_of_ble_eq_true rfl) (e_X1_isHolding (d + 3) b1 (M 48 (Int.toNat a3)) x2.2 _ _ hx5) ?_
        refine Z_if k_X3_isSo rfl 72 rfl (fun hc => ?_) (fun hc => ?_)
        · replace h := of_pos hc h
          refine Z_blk k_X3_isSo 1 (pc' := 73) (lo' := [some (vR 69 13 0), some (vR b1 11 0), some (vR 45 18 0), some (vI a3), some (vI (M 48 (Int.toNat a3)))]) (st' := [vI 0]) (M1 := x5.2) rfl ?_
          cases h
          exact Z_ret ⟨Or.inr ⟨rfl, Or.inl rfl⟩, _, rfl⟩ rfl
        · replace h := of_neg hc h
          refine Z_blk k_X3_isSo 2 (pc' := 73) (lo' := [some (vR 69 13 0), some (vR b1 11 0), some (vR 45 18 0), some (vI a3), some (vI (M 48 (Int.toNat a3)))]) (st' := [vI 1]) (M1 := x5.2) rfl ?_
          cases h
          exact Z_ret ⟨Or.inr ⟨rfl, Or.inr rfl⟩, _, rfl⟩ rfl
      · replace h := of_neg hs1 h
        refine Z_look k_X3_isSo rfl 74 (off := 49) (by have n0 : ¬ (18 : Int) = x2.2 47 (Int.toNat a3) := fun e => hs0 e.symm; have n1 : ¬ (19 : Int) = x2.2 47 (Int.toNat a3) := fun e => hs1 e.symm; simp [Op.lookupswitch.offset, n0, n1]) rfl ?_
        refine Z_blk k_X3_isSo 3 (pc' := 80) (lo' := [some (vR 69 13 0), some (vR b1 11 0), some (vR 45 18 0), some (vI a3), some (vI (M 48 (Int.toNat a3)))]) (st' := [vI (M 48 (Int.toNat a3)), vR (b1 + 6) 0 6]) (M1 := x2.2) rfl ?_
        obtain ⟨hc6, h⟩ := of_grd h
        refine Z_one k_X3_isSo rfl (pc' := 81) (lo' := [some (vR 69 13 0), some (vR b1 11 0), some (vR 45 18 0), some (vI a3), some (vI (M 48 (Int.toNat a3)))]) (st' := [vI (x2.2 (b1 + 6) (Int.toNat (M 48 (Int.toNat a3))))]) (M1 := x2.2) (if_pos hc6) ?_
        refine Z_blk k_X3_isSo 3 (pc' := 86) (lo' := [some (vR 69 13 0), some (vR b1 11 0), some (vR 45 18 0), some (vI a3), some (vI (M 48 (Int.toNat a3)))]) (st' := [vI a3, vR 49 0 60, vI (x2.2 (b1 + 6) (Int.toNat (M 48 (Int.toNat a3))))]) (M1 := x2.2) rfl ?_
        refine Z_one k_X3_isSo rfl (pc' := 87) (lo' := [some (vR 69 13 0), some (vR b1 11 0), some (vR 45 18 0), some (vI a3), some (vI (M 48 (Int.toNat a3)))]) (st' := [vI (x2.2 49 (Int.toNat a3)), vI (x2.2 (b1 + 6) (Int.toNat (M 48 (Int.toNat a3))))]) (M1 := x2.2) (if_pos hc1) ?_
        refine Z_blk k_X3_isSo 3 (pc' := 92) (lo' := [some (vR 69 13 0), some (vR b1 11 0), some (vR 45 18 0), some (vI a3), some (vI (M 48 (Int.toNat a3)))]) (st' := [vI a3, vR 50 0 60, vI (x2.2 49 (Int.toNat a3)), vI (x2.2 (b1 + 6) (Int.toNat (M 48 (Int.toNat a3))))]) (M1 := x2.2) rfl ?_
        refine Z_one k_X3_isSo rfl (pc' := 93) (lo' := [some (vR 69 13 0), some (vR b1 11 0), some (vR 45 18 0), some (vI a3), some (vI (M 48 (Int.toNat a3)))]) (st' := [vI (x2.2 50 (Int.toNat a3)), vI (x2.2 49 (Int.toNat a3)), vI (x2.2 (b1 + 6) (Int.toNat (M 48 (Int.toNat a3))))]) (M1 := x2.2) (if_pos hc1) ?_
        obtain ⟨x7, hx7, h⟩ := Option.bind_eq_some_iff.mp h
        refine Z_callS8 k_X3_isSo k_X3_compares rfl rfl (l_3_117) [vI (x2.2 (b1 + 6) (Int.toNat (M 48 (Int.toNat a3)))), vI (x2.2 49 (Int.toNat a3)), vI (x2.2 50 (Int.toNat a3))] [] rfl rfl (Nat.le_of_ble_eq_true rfl) (Nat.le_of_ble_eq_true rfl) (e_X3_compares (d + 3) (x2.2 (b1 + 6) (Int.toNat (M 48 (Int.toNat a3)))) (x2.2 49 (Int.toNat a3)) (x2.2 50 (Int.toNat a3)) x2.2 _ _ hx7) ?_
        obtain ⟨hc8, h⟩ := of_grd h
        cases h
        exact Z_ret ⟨Or.inr ⟨rfl, hc8⟩, _, rfl⟩ rfl
  · replace h := of_neg hc h
    refine Z_blk k_X3_isSo 1 (pc' := 18) (lo' := [some (vR 69 13 0), some (vR b1 11 0), some (vR 45 18 0), some (vI a3), some (vI (M 48 (Int.toNat a3)))]) (st' := [vI 0]) (M1 := x2.2) rfl ?_
    cases h
    exact Z_ret ⟨Or.inr ⟨rfl, Or.inl rfl⟩, _, rfl⟩ rfl
theorem l_3_128 : zhas 5207 (Jvm.Cond.methodLink "BellPullHouse$Life" 128 yX1_isMendable) = true := by decide +kernel
theorem l_3_131 : zhas 5208 (Jvm.Cond.methodLink "BellPullHouse$Life" 131 yX1_mendWire) = true := by decide +kernel
def f_X3_mendOne (b0 : Nat) (a1 : Int) (M : AM) : Option (Int × AM) := (f_X1_isWire b0 a1 M).bind fun x1 => if x1.1 = 0 then some (0, x1.2) else ((f_X1_isMendable b0 a1 x1.2).bind fun x2 => if ¬ x2.1 = 0 then ((f_X1_mendWire b0 a1 x2.2).bind fun x3 => some (1, x3)) else some (0, x2.2))
theorem e_X3_mendOne {Y : List (Nat × Nat)} (d : Nat) (b0 : Nat) (a1 : Int) (M : AM) (x : Int) (N : AM) (h : f_X3_mendOne b0 a1 M = some (x, N)) : Ev Y (d + 3) m_X3_mendOne 0 [some (vR b0 11 0), some (vI a1)] [] M (some (vI x)) N := by
  unfold f_X3_mendOne at h
  refine Z_blk k_X3_mendOne 2 (pc' := 2) (lo' := [some (vR b0 11 0), some (vI a1)]) (st' := [vI a1, vR b0 11 0]) (M1 := M) rfl ?_
  obtain ⟨x1, hx1, h⟩ := Option.bind_eq_some_iff.mp h
  refine Z_callV8 k_X3_mendOne k_X1_isWire rfl rfl (l_3_125) (ci := 1) rfl [vI a1] [] rfl rfl (Nat.le_of_ble_eq_true rfl) (Nat.le_of_ble_eq_true rfl) (e_X1_isWire (d + 2) b0 a1 M _ _ hx1) ?_
  refine Z_if k_X3_mendOne rfl 16 rfl (fun hc => ?_) (fun hc => ?_)
  · replace h := of_pos hc h
    refine Z_blk k_X3_mendOne 1 (pc' := 17) (lo' := [some (vR b0 11 0), some (vI a1)]) (st' := [vI 0]) (M1 := x1.2) rfl ?_
    cases h
    exact Z_ret ⟨Or.inr ⟨rfl, Or.inl rfl⟩, _, rfl⟩ rfl
  · replace h := of_neg hc h
    refine Z_blk k_X3_mendOne 2 (pc' := 10) (lo' := [some (vR b0 11 0), some (vI a1)]) (st' := [vI a1, vR b0 11 0]) (M1 := x1.2) rfl ?_
    obtain ⟨x2, hx2, h⟩ := Option.bind_eq_some_iff.mp h
    refine Z_callV8 k_X3_mendOne k_X1_isMendable rfl rfl (l_3_128) (ci := 1) rfl [vI a1] [] rfl rfl (Nat.le_of_ble_eq_true rfl) (Nat.le_of_ble_eq_true rfl) (e_X1_isMendable (d + 1) b0 a1 x1.2 _ _ hx2) ?_
    refine Z_if k_X3_mendOne rfl 18 rfl (fun hc => ?_) (fun hc => ?_)
    · replace h := of_pos hc h
      refine Z_blk k_X3_mendOne 2 (pc' := 20) (lo' := [some (vR b0 11 0), some (vI a1)]) (st' := [vI a1, vR b0 11 0]) (M1 := x2.2) rfl ?_
      obtain ⟨x3, hx3, h⟩ := Option.bind_eq_some_iff.mp h
      refine Z_callV8 k_X3_mendOne k_X1_mendWire rfl rfl (l_3_131) (ci := 1) rfl [vI a1] [] rfl rfl (Nat.le_of_ble_eq_true rfl) (Nat.le_of_ble_eq_true rfl) (e_X1_mendWire (d + 0) b0 a1 x2.2 _ hx3) ?_
      refine Z_blk k_X3_mendOne 1 (pc' := 24) (lo' := [some (vR b0 11 0), some (vI a1)]) (st' := [vI 1]) (M1 := x3) rfl ?_
      cases h
      exact Z_ret ⟨Or.inr ⟨rfl, Or.inr rfl⟩, _, rfl⟩ rfl
    · replace h := of_neg hc h
      refine Z_blk k_X3_mendOne 1 (pc' := 17) (lo' := [some (vR b0 11 0), some (vI a1)]) (st' := [vI 0]) (M1 := x2.2) rfl ?_
      cases h
      exact Z_ret ⟨Or.inr ⟨rfl, Or.inl rfl⟩, _, rfl⟩ rfl
def f_X3_turnDamp (b0 : Nat) (a1 : Int) (M : AM) : Option (Int × AM) := if M b0 6 = a1 then (if a1 = 0 ∨ a1 = 1 then (zlet (am_upd M b0 6 a1) fun M2 => some (0, M2)) else none) else (if a1 = 0 ∨ a1 = 1 then (zlet (am_upd M b0 6 a1) fun M4 => some (1, M4)) else none)
theorem e_X3_turnDamp {Y : List (Nat × Nat)} (d : Nat) (b0 : Nat) (a1 : Int) (M : AM) (x : Int) (N : AM) (h : f_X3_turnDamp b0 a1 M = some (x, N)) : Ev Y (d + 0) m_X3_turnDamp 0 [some (vR b0 11 0), some (vI a1), none] [] M (some (vI x)) N := by
  unfold f_X3_turnDamp at h
  refine Z_blk k_X3_turnDamp 3 (pc' := 5) (lo' := [some (vR b0 11 0), some (vI a1), none]) (st' := [vI a1, vI (M b0 6)]) (M1 := M) rfl ?_
  refine Z_icmp k_X3_turnDamp rfl 12 rfl (fun hc => ?_) (fun hc => ?_)
  · replace h := of_pos hc h
    refine Z_blk k_X3_turnDamp 4 (pc' := 16) (lo' := [some (vR b0 11 0), some (vI a1), some (vI 0)]) (st' := [vI a1, vR b0 11 0]) (M1 := M) rfl ?_
    obtain ⟨hc1, h⟩ := of_grd h
    obtain ⟨M2, eM2, h⟩ := of_zlet h
    refine Z_one k_X3_turnDamp rfl (pc' := 19) (lo' := [some (vR b0 11 0), some (vI a1), some (vI 0)]) (st' := []) (M1 := M2) (by rw [eM2]; exact if_pos hc1) ?_
    refine Z_blk k_X3_turnDamp 1 (pc' := 20) (lo' := [some (vR b0 11 0), some (vI a1), some (vI 0)]) (st' := [vI 0]) (M1 := M2) rfl ?_
    cases h
    exact Z_ret ⟨Or.inr ⟨rfl, Or.inl rfl⟩, _, rfl⟩ rfl
  · replace h := of_neg hc h
    refine Z_blk k_X3_turnDamp 5 (pc' := 16) (lo' := [some (vR b0 11 0), some (vI a1), some (vI 1)]) (st' := [vI a1, vR b0 11 0]) (M1 := M) rfl ?_
    obtain ⟨hc3, h⟩ := of_grd h
    obtain ⟨M4, eM4, h⟩ := of_zlet h
    refine Z_one k_X3_turnDamp rfl (pc' := 19) (lo' := [some (vR b0 11 0), some (vI a1), some (vI 1)]) (st' := []) (M1 := M4) (by rw [eM4]; exact if_pos hc3) ?_
    refine Z_blk k_X3_turnDamp 1 (pc' := 20) (lo' := [some (vR b0 11 0), some (vI a1), some (vI 1)]) (st' := [vI 1]) (M1 := M4) rfl ?_
    cases h
    exact Z_ret ⟨Or.inr ⟨rfl, Or.inr rfl⟩, _, rfl⟩ rfl
theorem l_3_58 : zhas 5188 (Jvm.Cond.methodLink "BellPullHouse$Life" 58 yX3_isSo) = true := by decide +kernel
theorem l_3_70 : zhas 5198 (Jvm.Cond.methodLink "BellPullHouse$Life" 70 yX0_pass) = true := by decide +kernel
theorem l_3_74 : zhas 5199 (Jvm.Cond.methodLink "BellPullHouse$Life" 74 yJ6_bitCount_0f7a4) = true := by decide +kernel
theorem l_3_80 : zhas 5200 (Jvm.Cond.methodLink "BellPullHouse$Life" 80 yX3_turnDamp) = true := by decide +kernel
theorem l_3_87 : zhas 5203 (Jvm.Cond.methodLink "BellPullHouse$Life" 87 yX3_mendOne) = true := by decide +kernel
theorem l_3_94 : zhas 5215 (Jvm.Cond.methodLink "BellPullHouse$Life" 94 yX3_hurtAny) = true := by decide +kernel
def f_X3_doStep_248 (a3 : Int) (a4 : Int) (M : AM) : Option (Int × AM) := if ¬ a4 = 0 then some (o_add a3 1, M) else (zlet (am_upd M 70 (Int.toNat 0) (o_add (M 70 (Int.toNat 0)) 1)) fun M1 => some (o_add a3 1, M1))
theorem e_X3_doStep_248 {Y : List (Nat × Nat)} (d : Nat) (a3 : Int) (a4 : Int) (M : AM) (x : Int) (N : AM) (h : f_X3_doStep_248 a3 a4 M = some (x, N)) : Ev Y (d + 5) m_X3_doStep 248 [some (vR 69 13 0), none, none, some (vI a3), some (vI a4)] [] M (some (vI x)) N := by
  unfold f_X3_doStep_248 at h
  refine Z_blk k_X3_doStep 1 (pc' := 250) (lo' := [some (vR 69 13 0), none, none, some (vI a3), some (vI a4)]) (st' := [vI a4]) (M1 := M) rfl ?_
  refine Z_if k_X3_doStep rfl 263 rfl (fun hc => ?_) (fun hc => ?_)
  · replace h := of_pos hc h
    refine Z_blk k_X3_doStep 3 (pc' := 266) (lo' := [some (vR 69 13 0), none, none, some (vI a3), some (vI a4)]) (st' := [vI (o_add a3 1)]) (M1 := M) rfl ?_
    cases h
    exact Z_ret ⟨Or.inl rfl, _, rfl⟩ rfl
  · replace h := of_neg hc h
    refine Z_blk k_X3_doStep 4 (pc' := 259) (lo' := [some (vR 69 13 0), none, none, some (vI a3), some (vI a4)]) (st' := [vI 0, vR 70 0 5, vI 0, vR 70 0 5]) (M1 := M) rfl ?_
    refine Z_one k_X3_doStep rfl (pc' := 260) (lo' := [some (vR 69 13 0), none, none, some (vI a3), some (vI a4)]) (st' := [vI (M 70 (Int.toNat 0)), vI 0, vR 70 0 5]) (M1 := M) (rfl) ?_
    refine Z_blk k_X3_doStep 2 (pc' := 262) (lo' := [some (vR 69 13 0), none, none, some (vI a3), some (vI a4)]) (st' := [vI (o_add (M 70 (Int.toNat 0)) 1), vI 0, vR 70 0 5]) (M1 := M) rfl ?_
    obtain ⟨M1, eM1, h⟩ := of_zlet h
    refine Z_one k_X3_doStep rfl (pc' := 263) (lo' := [some (vR 69 13 0), none, none, some (vI a3), some (vI a4)]) (st' := []) (M1 := M1) (by rw [eM1]; exact rfl) ?_
    refine Z_blk k_X3_doStep 3 (pc' := 266) (lo' := [some (vR 69 13 0), none, none, some (vI a3), some (vI a4)]) (st' := [vI (o_add a3 1)]) (M1 := M1) rfl ?_
    cases h
    exact Z_ret ⟨Or.inl rfl, _, rfl⟩ rfl
def f_X3_doStep_139 (b1 : Nat) (a3 : Int) (s0 : Int) (M : AM) : Option (Int × AM) := if s0 = 0 then f_X3_doStep_248 a3 s0 M else (if 0 ≤ a3 ∧ a3 < 60 then ((f_X0_pass 72 b1 (M 50 (Int.toNat a3)) M).bind fun x2 => (f_J6_bitCount_0f7a4 x2.1 x2.2).bind fun x3 => zlet (am_upd x3.2 70 (Int.toNat 2) (o_add (M 70 (Int.toNat 2)) x3.1)) fun M4 => zlet (am_upd M4 70 (Int.toNat 1) (o_add (M4 70 (Int.toNat 1)) (M4 50 (Int.toNat a3)))) fun M5 => f_X3_doStep_248 a3 s0 M5) else none)
theorem e_X3_doStep_139 {Y : List (Nat × Nat)} (d : Nat) (b1 : Nat) (a3 : Int) (s0 : Int) (M : AM) (x : Int) (N : AM) (h : f_X3_doStep_139 b1 a3 s0 M = some (x, N)) : Ev Y (d + 5) m_X3_doStep 139 [some (vR 69 13 0), some (vR b1 11 0), some (vR 45 18 0), some (vI a3), none] [vI s0] M (some (vI x)) N := by
  unfold f_X3_doStep_139 at h
  refine Z_blk k_X3_doStep 2 (pc' := 143) (lo' := [some (vR 69 13 0), some (vR b1 11 0), some (vR 45 18 0), some (vI a3), some (vI s0)]) (st' := [vI s0]) (M1 := M) rfl ?_
  refine Z_if k_X3_doStep rfl 248 rfl (fun hc => ?_) (fun hc => ?_)
  · replace h := of_pos hc h
    refine Z_mask [true, false, false, true, true] (lo0 := [some (vR 69 13 0), none, none, some (vI a3), some (vI s0)]) rfl ?_
    exact e_X3_doStep_248 d a3 s0 M _ _ h
  · replace h := of_neg hc h
    refine Z_blk k_X3_doStep 4 (pc' := 152) (lo' := [some (vR 69 13 0), some (vR b1 11 0), some (vR 45 18 0), some (vI a3), some (vI s0)]) (st' := [vI 2, vR 70 0 5, vI 2, vR 70 0 5]) (M1 := M) rfl ?_
    refine Z_one k_X3_doStep rfl (pc' := 153) (lo' := [some (vR 69 13 0), some (vR b1 11 0), some (vR 45 18 0), some (vI a3), some (vI s0)]) (st' := [vI (M 70 (Int.toNat 2)), vI 2, vR 70 0 5]) (M1 := M) (rfl) ?_
    refine Z_blk k_X3_doStep 6 (pc' := 163) (lo' := [some (vR 69 13 0), some (vR b1 11 0), some (vR 45 18 0), some (vI a3), some (vI s0)]) (st' := [vI a3, vR 50 0 60, vR b1 11 0, vR 72 10 0, vI (M 70 (Int.toNat 2)), vI 2, vR 70 0 5]) (M1 := M) rfl ?_
    obtain ⟨hc1, h⟩ := of_grd h
    refine Z_one k_X3_doStep rfl (pc' := 164) (lo' := [some (vR 69 13 0), some (vR b1 11 0), some (vR 45 18 0), some (vI a3), some (vI s0)]) (st' := [vI (M 50 (Int.toNat a3)), vR b1 11 0, vR 72 10 0, vI (M 70 (Int.toNat 2)), vI 2, vR 70 0 5]) (M1 := M) (if_pos hc1) ?_
    obtain ⟨x2, hx2, h⟩ := Option.bind_eq_some_iff.mp h
    refine Z_callV8 k_X3_doStep k_X0_pass rfl rfl (l_3_70) (ci := 0) rfl [vR b1 11 0, vI (M 50 (Int.toNat a3))] [vI (M 70 (Int.toNat 2)), vI 2, vR 70 0 5] rfl rfl (Nat.le_of_ble_eq_true rfl) (Nat.le_of_ble_eq_true rfl) (e_X0_pass (d + 0) 72 b1 (M 50 (Int.toNat a3)) M _ _ hx2) ?_
    obtain ⟨x3, hx3, h⟩ := Option.bind_eq_some_iff.mp h
    refine Z_callS8 k_X3_doStep k_J6_bitCount_0f7a4 rfl rfl (l_3_74) [vI x2.1] [vI (M 70 (Int.toNat 2)), vI 2, vR 70 0 5] rfl rfl (Nat.le_of_ble_eq_true rfl) (Nat.le_of_ble_eq_true rfl) (e_J6_bitCount_0f7a4 (d + 4) x2.1 x2.2 _ _ hx3) ?_
    refine Z_blk k_X3_doStep 1 (pc' := 171) (lo' := [some (vR 69 13 0), some (vR b1 11 0), some (vR 45 18 0), some (vI a3), some (vI s0)]) (st' := [vI (o_add (M 70 (Int.toNat 2)) x3.1), vI 2, vR 70 0 5]) (M1 := x3.2) rfl ?_
    obtain ⟨M4, eM4, h⟩ := of_zlet h
    refine Z_one k_X3_doStep rfl (pc' := 172) (lo' := [some (vR 69 13 0), some (vR b1 11 0), some (vR 45 18 0), some (vI a3), some (vI s0)]) (st' := []) (M1 := M4) (by rw [eM4]; exact rfl) ?_
    refine Z_blk k_X3_doStep 4 (pc' := 178) (lo' := [some (vR 69 13 0), some (vR b1 11 0), some (vR 45 18 0), some (vI a3), some (vI s0)]) (st' := [vI 1, vR 70 0 5, vI 1, vR 70 0 5]) (M1 := M4) rfl ?_
    refine Z_one k_X3_doStep rfl (pc' := 179) (lo' := [some (vR 69 13 0), some (vR b1 11 0), some (vR 45 18 0), some (vI a3), some (vI s0)]) (st' := [vI (M4 70 (Int.toNat 1)), vI 1, vR 70 0 5]) (M1 := M4) (rfl) ?_
    refine Z_blk k_X3_doStep 3 (pc' := 184) (lo' := [some (vR 69 13 0), some (vR b1 11 0), some (vR 45 18 0), some (vI a3), some (vI s0)]) (st' := [vI a3, vR 50 0 60, vI (M4 70 (Int.toNat 1)), vI 1, vR 70 0 5]) (M1 := M4) rfl ?_
    refine Z_one k_X3_doStep rfl (pc' := 185) (lo' := [some (vR 69 13 0), some (vR b1 11 0), some (vR 45 18 0), some (vI a3), some (vI s0)]) (st' := [vI (M4 50 (Int.toNat a3)), vI (M4 70 (Int.toNat 1)), vI 1, vR 70 0 5]) (M1 := M4) (if_pos hc1) ?_
    refine Z_blk k_X3_doStep 1 (pc' := 186) (lo' := [some (vR 69 13 0), some (vR b1 11 0), some (vR 45 18 0), some (vI a3), some (vI s0)]) (st' := [vI (o_add (M4 70 (Int.toNat 1)) (M4 50 (Int.toNat a3))), vI 1, vR 70 0 5]) (M1 := M4) rfl ?_
    obtain ⟨M5, eM5, h⟩ := of_zlet h
    refine Z_one k_X3_doStep rfl (pc' := 187) (lo' := [some (vR 69 13 0), some (vR b1 11 0), some (vR 45 18 0), some (vI a3), some (vI s0)]) (st' := []) (M1 := M5) (by rw [eM5]; exact rfl) ?_
    refine Z_blk k_X3_doStep 1 (pc' := 248) (lo' := [some (vR 69 13 0), some (vR b1 11 0), some (vR 45 18 0), some (vI a3), some (vI s0)]) (st' := []) (M1 := M5) rfl ?_
    refine Z_mask [true, false, false, true, true] (lo0 := [some (vR 69 13 0), none, none, some (vI a3), some (vI s0)]) rfl ?_
    exact e_X3_doStep_248 d a3 s0 M5 _ _ h
def f_X3_doStep (b1 : Nat) (a3 : Int) (M : AM) : Option (Int × AM) := if 0 ≤ a3 ∧ a3 < 60 then (if M 46 (Int.toNat a3) = 11 then (if 9999 < o_add (M b1 5) (M 50 (Int.toNat a3)) then f_X3_doStep_139 b1 a3 0 M else f_X3_doStep_139 b1 a3 1 M) else (if M 46 (Int.toNat a3) = 12 then ((f_X3_turnDamp b1 1 M).bind fun x2 => f_X3_doStep_248 a3 x2.1 x2.2) else (if M 46 (Int.toNat a3) = 13 then ((f_X3_turnDamp b1 0 M).bind fun x3 => f_X3_doStep_248 a3 x3.1 x3.2) else (if M 46 (Int.toNat a3) = 14 then ((f_X3_mendOne b1 (M 48 (Int.toNat a3)) M).bind fun x4 => f_X3_doStep_248 a3 x4.1 x4.2) else (if M 46 (Int.toNat a3) = 15 then ((f_X3_cutOne b1 (M 48 (Int.toNat a3)) M).bind fun x5 => f_X3_doStep_248 a3 x5.1 x5.2) else (if M 46 (Int.toNat a3) = 16 then ((f_X3_hurtAny b1 M).bind fun x6 => f_X3_doStep_248 a3 x6.1 x6.2) else (if M 46 (Int.toNat a3) = 17 then ((f_X3_isSo b1 a3 M).bind fun x7 => if x7.1 = 0 then some (o_add (x7.2 51 (Int.toNat a3)) 1, x7.2) else some (o_add a3 1, x7.2)) else (if M 46 (Int.toNat a3) = 18 then ((f_X3_hurtAny b1 M).bind fun x8 => f_X3_doStep_248 a3 x8.1 x8.2) else (if M 46 (Int.toNat a3) = 19 then ((f_X3_hurtAny b1 M).bind fun x9 => f_X3_doStep_248 a3 x9.1 x9.2) else (if M 46 (Int.toNat a3) = 20 then (zlet (am_upd M 71 (Int.toNat a3) (M 50 (Int.toNat a3))) fun M10 => f_X3_doStep_248 a3 1 M10) else (if M 46 (Int.toNat a3) = 21 then ((f_X3_hurtAny b1 M).bind fun x11 => f_X3_doStep_248 a3 x11.1 x11.2) else (if M 46 (Int.toNat a3) = 22 then some (M 45 2, M) else ((f_X3_hurtAny b1 M).bind fun x12 => f_X3_doStep_248 a3 x12.1 x12.2))))))))))))) else none
theorem e_X3_doStep {Y : List (Nat × Nat)} (d : Nat) (b1 : Nat) (a3 : Int) (M : AM) (x : Int) (N : AM) (h : f_X3_doStep b1 a3 M = some (x, N)) : Ev Y (d + 5) m_X3_doStep 0 [some (vR 69 13 0), some (vR b1 11 0), some (vR 45 18 0), some (vI a3), none] [] M (some (vI x)) N := by
  unfold f_X3_doStep at h
  refine Z_blk k_X3_doStep 5 (pc' := 8) (lo' := [some (vR 69 13 0), some (vR b1 11 0), some (vR 45 18 0), some (vI a3), some (vI 1)]) (st' := [vI a3, vR 46 0 60]) (M1 := M) rfl ?_
  obtain ⟨hc1, h⟩ := of_grd h
  refine Z_one k_X3_doStep rfl (pc' := 9) (lo' := [some (vR 69 13 0), some (vR b1 11 0), some (vR 45 18 0), some (vI a3), some (vI 1)]) (st' := [vI (M 46 (Int.toNat a3))]) (M1 := M) (if_pos hc1) ?_
  by_cases hs0 : M 46 (Int.toNat a3) = 11
  · replace h := of_pos hs0 h
    refine Z_tabIn k_X3_doStep rfl 117 (off := 108) (by rw [hs0]; decide) (by rw [hs0]; decide) (by first | (rw [hs0]; done) | (rw [hs0]; rfl)) rfl ?_
    refine Z_blk k_X3_doStep 5 (pc' := 126) (lo' := [some (vR 69 13 0), some (vR b1 11 0), some (vR 45 18 0), some (vI a3), some (vI 1)]) (st' := [vI a3, vR 50 0 60, vI (M b1 5)]) (M1 := M) rfl ?_
    refine Z_one k_X3_doStep rfl (pc' := 127) (lo' := [some (vR 69 13 0), some (vR b1 11 0), some (vR 45 18 0), some (vI a3), some (vI 1)]) (st' := [vI (M 50 (Int.toNat a3)), vI (M b1 5)]) (M1 := M) (if_pos hc1) ?_
    refine Z_blk k_X3_doStep 2 (pc' := 131) (lo' := [some (vR 69 13 0), some (vR b1 11 0), some (vR 45 18 0), some (vI a3), some (vI 1)]) (st' := [vI 9999, vI (o_add (M b1 5) (M 50 (Int.toNat a3)))]) (M1 := M) rfl ?_
    refine Z_icmp k_X3_doStep rfl 138 rfl (fun hc => ?_) (fun hc => ?_)
    · replace h := of_pos hc h
      refine Z_blk k_X3_doStep 1 (pc' := 139) (lo' := [some (vR 69 13 0), some (vR b1 11 0), some (vR 45 18 0), some (vI a3), some (vI 1)]) (st' := [vI 0]) (M1 := M) rfl ?_
      refine Z_mask [true, true, true, true, false] (lo0 := [some (vR 69 13 0), some (vR b1 11 0), some (vR 45 18 0), some (vI a3), none]) rfl ?_
      exact e_X3_doStep_139 d b1 a3 0 M _ _ h
    · replace h := of_neg hc h
      refine Z_blk k_X3_doStep 2 (pc' := 139) (lo' := [some (vR 69 13 0), some (vR b1 11 0), some (vR 45 18 0), some (vI a3), some (vI 1)]) (st' := [vI 1]) (M1 := M) rfl ?_
      refine Z_mask [true, true, true, true, false] (lo0 := [some (vR 69 13 0), some (vR b1 11 0), some (vR 45 18 0), some (vI a3), none]) rfl ?_
      exact e_X3_doStep_139 d b1 a3 1 M _ _ h
  · replace h := of_neg hs0 h
    by_cases hs1 : M 46 (Int.toNat a3) = 12
    · replace h := of_pos hs1 h
      refine Z_tabIn k_X3_doStep rfl 190 (off := 181) (by rw [hs1]; decide) (by rw [hs1]; decide) (by first | (rw [hs1]; done) | (rw [hs1]; rfl)) rfl ?_
      refine Z_blk k_X3_doStep 2 (pc' := 192) (lo' := [some (vR 69 13 0), some (vR b1 11 0), some (vR 45 18 0), some (vI a3), some (vI 1)]) (st' := [vI 1, vR b1 11 0]) (M1 := M) rfl ?_
      obtain ⟨x2, hx2, h⟩ := Option.bind_eq_some_iff.mp h
      refine Z_callS8 k_X3_doStep k_X3_turnDamp rfl rfl (l_3_80) [vR b1 11 0, vI 1] [] rfl rfl (Nat.le_of_ble_eq_true rfl) (Nat.le_of_ble_eq_true rfl) (e_X3_turnDamp (d + 4) b1 1 M _ _ hx2) ?_
      refine Z_blk k_X3_doStep 2 (pc' := 248) (lo' := [some (vR 69 13 0), some (vR b1 11 0), some (vR 45 18 0), some (vI a3), some (vI x2.1)]) (st' := []) (M1 := x2.2) rfl ?_
      refine Z_mask [true, false, false, true, true] (lo0 := [some (vR 69 13 0), none, none, some (vI a3), some (vI x2.1)]) rfl ?_
      exact e_X3_doStep_248 d a3 x2.1 x2.2 _ _ h
    · replace h := of_neg hs1 h
      by_cases hs2 : M 46 (Int.toNat a3) = 13
      · replace h := of_pos hs2 h
        refine Z_tabIn k_X3_doStep rfl 200 (off := 191) (by rw [hs2]; decide) (by rw [hs2]; decide) (by first | (rw [hs2]; done) | (rw [hs2]; rfl)) rfl ?_
        refine Z_blk k_X3_doStep 2 (pc' := 202) (lo' := [some (vR 69 13 0), some (vR b1 11 0), some (vR 45 18 0), some (vI a3), some (vI 1)]) (st' := [vI 0, vR b1 11 0]) (M1 := M) rfl ?_
        obtain ⟨x3, hx3, h⟩ := Option.bind_eq_some_iff.mp h
        refine Z_callS8 k_X3_doStep k_X3_turnDamp rfl rfl (l_3_80) [vR b1 11 0, vI 0] [] rfl rfl (Nat.le_of_ble_eq_true rfl) (Nat.le_of_ble_eq_true rfl) (e_X3_turnDamp (d + 4) b1 0 M _ _ hx3) ?_
        refine Z_blk k_X3_doStep 2 (pc' := 248) (lo' := [some (vR 69 13 0), some (vR b1 11 0), some (vR 45 18 0), some (vI a3), some (vI x3.1)]) (st' := []) (M1 := x3.2) rfl ?_
        refine Z_mask [true, false, false, true, true] (lo0 := [some (vR 69 13 0), none, none, some (vI a3), some (vI x3.1)]) rfl ?_
        exact e_X3_doStep_248 d a3 x3.1 x3.2 _ _ h
      · replace h := of_neg hs2 h
        by_cases hs3 : M 46 (Int.toNat a3) = 14
        · replace h := of_pos hs3 h
          refine Z_tabIn k_X3_doStep rfl 210 (off := 201) (by rw [hs3]; decide) (by rw [hs3]; decide) (by first | (rw [hs3]; done) | (rw [hs3]; rfl)) rfl ?_
          refine Z_blk k_X3_doStep 4 (pc' := 216) (lo' := [some (vR 69 13 0), some (vR b1 11 0), some (vR 45 18 0), some (vI a3), some (vI 1)]) (st' := [vI a3, vR 48 0 60, vR b1 11 0]) (M1 := M) rfl ?_
          refine Z_one k_X3_doStep rfl (pc' := 217) (lo' := [some (vR 69 13 0), some (vR b1 11 0), some (vR 45 18 0), some (vI a3), some (vI 1)]) (st' := [vI (M 48 (Int.toNat a3)), vR b1 11 0]) (M1 := M) (if_pos hc1) ?_
          obtain ⟨x4, hx4, h⟩ := Option.bind_eq_some_iff.mp h
          refine Z_callS8 k_X3_doStep k_X3_mendOne rfl rfl (l_3_87) [vR b1 11 0, vI (M 48 (Int.toNat a3))] [] rfl rfl (Nat.le_of_ble_eq_true rfl) (Nat.le_of_ble_eq_true rfl) (e_X3_mendOne (d + 1) b1 (M 48 (Int.toNat a3)) M _ _ hx4) ?_
          refine Z_blk k_X3_doStep 2 (pc' := 248) (lo' := [some (vR 69 13 0), some (vR b1 11 0), some (vR 45 18 0), some (vI a3), some (vI x4.1)]) (st' := []) (M1 := x4.2) rfl ?_
          refine Z_mask [true, false, false, true, true] (lo0 := [some (vR 69 13 0), none, none, some (vI a3), some (vI x4.1)]) rfl ?_
          exact e_X3_doStep_248 d a3 x4.1 x4.2 _ _ h
        · replace h := of_neg hs3 h
          by_cases hs4 : M 46 (Int.toNat a3) = 15
          · replace h := of_pos hs4 h
            refine Z_tabIn k_X3_doStep rfl 225 (off := 216) (by rw [hs4]; decide) (by rw [hs4]; decide) (by first | (rw [hs4]; done) | (rw [hs4]; rfl)) rfl ?_
            refine Z_blk k_X3_doStep 5 (pc' := 232) (lo' := [some (vR 69 13 0), some (vR b1 11 0), some (vR 45 18 0), some (vI a3), some (vI 1)]) (st' := [vI a3, vR 48 0 60, vR b1 11 0, vR 69 13 0]) (M1 := M) rfl ?_
            refine Z_one k_X3_doStep rfl (pc' := 233) (lo' := [some (vR 69 13 0), some (vR b1 11 0), some (vR 45 18 0), some (vI a3), some (vI 1)]) (st' := [vI (M 48 (Int.toNat a3)), vR b1 11 0, vR 69 13 0]) (M1 := M) (if_pos hc1) ?_
            obtain ⟨x5, hx5, h⟩ := Option.bind_eq_some_iff.mp h
            refine Z_callV8 k_X3_doStep k_X3_cutOne rfl rfl (l_3_91) (ci := 3) rfl [vR b1 11 0, vI (M 48 (Int.toNat a3))] [] rfl rfl (Nat.le_of_ble_eq_true rfl) (Nat.le_of_ble_eq_true rfl) (e_X3_cutOne (d + 3) b1 (M 48 (Int.toNat a3)) M _ _ hx5) ?_
            refine Z_blk k_X3_doStep 2 (pc' := 248) (lo' := [some (vR 69 13 0), some (vR b1 11 0), some (vR 45 18 0), some (vI a3), some (vI x5.1)]) (st' := []) (M1 := x5.2) rfl ?_
            refine Z_mask [true, false, false, true, true] (lo0 := [some (vR 69 13 0), none, none, some (vI a3), some (vI x5.1)]) rfl ?_
            exact e_X3_doStep_248 d a3 x5.1 x5.2 _ _ h
          · replace h := of_neg hs4 h
            by_cases hs5 : M 46 (Int.toNat a3) = 16
            · replace h := of_pos hs5 h
              refine Z_tabIn k_X3_doStep rfl 241 (off := 232) (by rw [hs5]; decide) (by rw [hs5]; decide) (by first | (rw [hs5]; done) | (rw [hs5]; rfl)) rfl ?_
              refine Z_blk k_X3_doStep 2 (pc' := 243) (lo' := [some (vR 69 13 0), some (vR b1 11 0), some (vR 45 18 0), some (vI a3), some (vI 1)]) (st' := [vR b1 11 0, vR 69 13 0]) (M1 := M) rfl ?_
              obtain ⟨x6, hx6, h⟩ := Option.bind_eq_some_iff.mp h
              refine Z_callV8 k_X3_doStep k_X3_hurtAny rfl rfl (l_3_94) (ci := 3) rfl [vR b1 11 0] [] rfl rfl (Nat.le_of_ble_eq_true rfl) (Nat.le_of_ble_eq_true rfl) (e_X3_hurtAny (d + 2) b1 M _ _ hx6) ?_
              refine Z_blk k_X3_doStep 1 (pc' := 248) (lo' := [some (vR 69 13 0), some (vR b1 11 0), some (vR 45 18 0), some (vI a3), some (vI x6.1)]) (st' := []) (M1 := x6.2) rfl ?_
              refine Z_mask [true, false, false, true, true] (lo0 := [some (vR 69 13 0), none, none, some (vI a3), some (vI x6.1)]) rfl ?_
              exact e_X3_doStep_248 d a3 x6.1 x6.2 _ _ h
            · replace h := of_neg hs5 h
              by_cases hs6 : M 46 (Int.toNat a3) = 17
              · replace h := of_pos hs6 h
                refine Z_tabIn k_X3_doStep rfl 77 (off := 68) (by rw [hs6]; decide) (by rw [hs6]; decide) (by first | (rw [hs6]; done) | (rw [hs6]; rfl)) rfl ?_
                refine Z_blk k_X3_doStep 4 (pc' := 81) (lo' := [some (vR 69 13 0), some (vR b1 11 0), some (vR 45 18 0), some (vI a3), some (vI 1)]) (st' := [vI a3, vR 45 18 0, vR b1 11 0, vR 69 13 0]) (M1 := M) rfl ?_
                obtain ⟨x7, hx7, h⟩ := Option.bind_eq_some_iff.mp h
                refine Z_callV8 k_X3_doStep k_X3_isSo rfl rfl (l_3_58) (ci := 3) rfl [vR b1 11 0, vR 45 18 0, vI a3] [] rfl rfl (Nat.le_of_ble_eq_true rfl) (Nat.le_of_ble_eq_true rfl) (e_X3_isSo (d + 0) b1 a3 M _ _ hx7) ?_
                refine Z_if k_X3_doStep rfl 93 rfl (fun hc => ?_) (fun hc => ?_)
                · replace h := of_pos hc h
                  refine Z_blk k_X3_doStep 3 (pc' := 98) (lo' := [some (vR 69 13 0), some (vR b1 11 0), some (vR 45 18 0), some (vI a3), some (vI 1)]) (st' := [vI a3, vR 51 0 60]) (M1 := x7.2) rfl ?_
                  refine Z_one k_X3_doStep rfl (pc' := 99) (lo' := [some (vR 69 13 0), some (vR b1 11 0), some (vR 45 18 0), some (vI a3), some (vI 1)]) (st' := [vI (x7.2 51 (Int.toNat a3))]) (M1 := x7.2) (if_pos hc1) ?_
                  refine Z_blk k_X3_doStep 2 (pc' := 101) (lo' := [some (vR 69 13 0), some (vR b1 11 0), some (vR 45 18 0), some (vI a3), some (vI 1)]) (st' := [vI (o_add (x7.2 51 (Int.toNat a3)) 1)]) (M1 := x7.2) rfl ?_
                  cases h
                  exact Z_ret ⟨Or.inl rfl, _, rfl⟩ rfl
                · replace h := of_neg hc h
                  refine Z_blk k_X3_doStep 4 (pc' := 101) (lo' := [some (vR 69 13 0), some (vR b1 11 0), some (vR 45 18 0), some (vI a3), some (vI 1)]) (st' := [vI (o_add a3 1)]) (M1 := x7.2) rfl ?_
                  cases h
                  exact Z_ret ⟨Or.inl rfl, _, rfl⟩ rfl
              · replace h := of_neg hs6 h
                by_cases hs7 : M 46 (Int.toNat a3) = 18
                · replace h := of_pos hs7 h
                  refine Z_tabIn k_X3_doStep rfl 241 (off := 232) (by rw [hs7]; decide) (by rw [hs7]; decide) (by first | (rw [hs7]; done) | (rw [hs7]; rfl)) rfl ?_
                  refine Z_blk k_X3_doStep 2 (pc' := 243) (lo' := [some (vR 69 13 0), some (vR b1 11 0), some (vR 45 18 0), some (vI a3), some (vI 1)]) (st' := [vR b1 11 0, vR 69 13 0]) (M1 := M) rfl ?_
                  obtain ⟨x8, hx8, h⟩ := Option.bind_eq_some_iff.mp h
                  refine Z_callV8 k_X3_doStep k_X3_hurtAny rfl rfl (l_3_94) (ci := 3) rfl [vR b1 11 0] [] rfl rfl (Nat.le_of_ble_eq_true rfl) (Nat.le_of_ble_eq_true rfl) (e_X3_hurtAny (d + 2) b1 M _ _ hx8) ?_
                  refine Z_blk k_X3_doStep 1 (pc' := 248) (lo' := [some (vR 69 13 0), some (vR b1 11 0), some (vR 45 18 0), some (vI a3), some (vI x8.1)]) (st' := []) (M1 := x8.2) rfl ?_
                  refine Z_mask [true, false, false, true, true] (lo0 := [some (vR 69 13 0), none, none, some (vI a3), some (vI x8.1)]) rfl ?_
                  exact e_X3_doStep_248 d a3 x8.1 x8.2 _ _ h
                · replace h := of_neg hs7 h
                  by_cases hs8 : M 46 (Int.toNat a3) = 19
                  · replace h := of_pos hs8 h
                    refine Z_tabIn k_X3_doStep rfl 241 (off := 232) (by rw [hs8]; decide) (by rw [hs8]; decide) (by first | (rw [hs8]; done) | (rw [hs8]; rfl)) rfl ?_
                    refine Z_blk k_X3_doStep 2 (pc' := 243) (lo' := [some (vR 69 13 0), some (vR b1 11 0), some (vR 45 18 0), some (vI a3), some (vI 1)]) (st' := [vR b1 11 0, vR 69 13 0]) (M1 := M) rfl ?_
                    obtain ⟨x9, hx9, h⟩ := Option.bind_eq_some_iff.mp h
                    refine Z_callV8 k_X3_doStep k_X3_hurtAny rfl rfl (l_3_94) (ci := 3) rfl [vR b1 11 0] [] rfl rfl (Nat.le_of_ble_eq_true rfl) (Nat.le_of_ble_eq_true rfl) (e_X3_hurtAny (d + 2) b1 M _ _ hx9) ?_
                    refine Z_blk k_X3_doStep 1 (pc' := 248) (lo' := [some (vR 69 13 0), some (vR b1 11 0), some (vR 45 18 0), some (vI a3), some (vI x9.1)]) (st' := []) (M1 := x9.2) rfl ?_
                    refine Z_mask [true, false, false, true, true] (lo0 := [some (vR 69 13 0), none, none, some (vI a3), some (vI x9.1)]) rfl ?_
                    exact e_X3_doStep_248 d a3 x9.1 x9.2 _ _ h
                  · replace h := of_neg hs8 h
                    by_cases hs9 : M 46 (Int.toNat a3) = 20
                    · replace h := of_pos hs9 h
                      refine Z_tabIn k_X3_doStep rfl 102 (off := 93) (by rw [hs9]; decide) (by rw [hs9]; decide) (by first | (rw [hs9]; done) | (rw [hs9]; rfl)) rfl ?_
                      refine Z_blk k_X3_doStep 6 (pc' := 112) (lo' := [some (vR 69 13 0), some (vR b1 11 0), some (vR 45 18 0), some (vI a3), some (vI 1)]) (st' := [vI a3, vR 50 0 60, vI a3, vR 71 0 60]) (M1 := M) rfl ?_
                      refine Z_one k_X3_doStep rfl (pc' := 113) (lo' := [some (vR 69 13 0), some (vR b1 11 0), some (vR 45 18 0), some (vI a3), some (vI 1)]) (st' := [vI (M 50 (Int.toNat a3)), vI a3, vR 71 0 60]) (M1 := M) (if_pos hc1) ?_
                      obtain ⟨M10, eM10, h⟩ := of_zlet h
                      refine Z_one k_X3_doStep rfl (pc' := 114) (lo' := [some (vR 69 13 0), some (vR b1 11 0), some (vR 45 18 0), some (vI a3), some (vI 1)]) (st' := []) (M1 := M10) (by rw [eM10]; exact if_pos hc1) ?_
                      refine Z_blk k_X3_doStep 1 (pc' := 248) (lo' := [some (vR 69 13 0), some (vR b1 11 0), some (vR 45 18 0), some (vI a3), some (vI 1)]) (st' := []) (M1 := M10) rfl ?_
                      refine Z_mask [true, false, false, true, true] (lo0 := [some (vR 69 13 0), none, none, some (vI a3), some (vI 1)]) rfl ?_
                      exact e_X3_doStep_248 d a3 1 M10 _ _ h
                    · replace h := of_neg hs9 h
                      by_cases hs10 : M 46 (Int.toNat a3) = 21
                      · replace h := of_pos hs10 h
                        refine Z_tabIn k_X3_doStep rfl 241 (off := 232) (by rw [hs10]; decide) (by rw [hs10]; decide) (by first | (rw [hs10]; done) | (rw [hs10]; rfl)) rfl ?_
                        refine Z_blk k_X3_doStep 2 (pc' := 243) (lo' := [some (vR 69 13 0), some (vR b1 11 0), some (vR 45 18 0), some (vI a3), some (vI 1)]) (st' := [vR b1 11 0, vR 69 13 0]) (M1 := M) rfl ?_
                        obtain ⟨x11, hx11, h⟩ := Option.bind_eq_some_iff.mp h
                        refine Z_callV8 k_X3_doStep k_X3_hurtAny rfl rfl (l_3_94) (ci := 3) rfl [vR b1 11 0] [] rfl rfl (Nat.le_of_ble_eq_true rfl) (Nat.le_of_ble_eq_true rfl) (e_X3_hurtAny (d + 2) b1 M _ _ hx11) ?_
                        refine Z_blk k_X3_doStep 1 (pc' := 248) (lo' := [some (vR 69 13 0), some (vR b1 11 0), some (vR 45 18 0), some (vI a3), some (vI x11.1)]) (st' := []) (M1 := x11.2) rfl ?_
                        refine Z_mask [true, false, false, true, true] (lo0 := [some (vR 69 13 0), none, none, some (vI a3), some (vI x11.1)]) rfl ?_
                        exact e_X3_doStep_248 d a3 x11.1 x11.2 _ _ h
                      · replace h := of_neg hs10 h
                        by_cases hs11 : M 46 (Int.toNat a3) = 22
                        · replace h := of_pos hs11 h
                          refine Z_tabIn k_X3_doStep rfl 72 (off := 63) (by rw [hs11]; decide) (by rw [hs11]; decide) (by first | (rw [hs11]; done) | (rw [hs11]; rfl)) rfl ?_
                          refine Z_blk k_X3_doStep 2 (pc' := 76) (lo' := [some (vR 69 13 0), some (vR b1 11 0), some (vR 45 18 0), some (vI a3), some (vI 1)]) (st' := [vI (M 45 2)]) (M1 := M) rfl ?_
                          cases h
                          exact Z_ret ⟨Or.inl rfl, _, rfl⟩ rfl
                        · replace h := of_neg hs11 h
                          refine Z_tabOut k_X3_doStep rfl 241 (by omega) rfl ?_
                          refine Z_blk k_X3_doStep 2 (pc' := 243) (lo' := [some (vR 69 13 0), some (vR b1 11 0), some (vR 45 18 0), some (vI a3), some (vI 1)]) (st' := [vR b1 11 0, vR 69 13 0]) (M1 := M) rfl ?_
                          obtain ⟨x12, hx12, h⟩ := Option.bind_eq_some_iff.mp h
                          refine Z_callV8 k_X3_doStep k_X3_hurtAny rfl rfl (l_3_94) (ci := 3) rfl [vR b1 11 0] [] rfl rfl (Nat.le_of_ble_eq_true rfl) (Nat.le_of_ble_eq_true rfl) (e_X3_hurtAny (d + 2) b1 M _ _ hx12) ?_
                          refine Z_blk k_X3_doStep 1 (pc' := 248) (lo' := [some (vR 69 13 0), some (vR b1 11 0), some (vR 45 18 0), some (vI a3), some (vI x12.1)]) (st' := []) (M1 := x12.2) rfl ?_
                          refine Z_mask [true, false, false, true, true] (lo0 := [some (vR 69 13 0), none, none, some (vI a3), some (vI x12.1)]) rfl ?_
                          exact e_X3_doStep_248 d a3 x12.1 x12.2 _ _ h
def f_X3_passEnd (a2 : Int) (M : AM) : Option (Int × AM) := if 0 ≤ a2 ∧ a2 < 60 then (if 0 ≤ M 51 (Int.toNat a2) ∧ M 51 (Int.toNat a2) < 60 then (if ¬ M 46 (Int.toNat (M 51 (Int.toNat a2))) = 20 then some (o_add a2 1, M) else (if M 71 (Int.toNat (M 51 (Int.toNat a2))) ≤ 1 then some (o_add a2 1, M) else (zlet (am_upd M 71 (Int.toNat (M 51 (Int.toNat a2))) (o_sub (M 71 (Int.toNat (M 51 (Int.toNat a2)))) 1)) fun M3 => some (o_add (M 51 (Int.toNat a2)) 1, M3)))) else none) else none
theorem e_X3_passEnd {Y : List (Nat × Nat)} (d : Nat) (a2 : Int) (M : AM) (x : Int) (N : AM) (h : f_X3_passEnd a2 M = some (x, N)) : Ev Y (d + 0) m_X3_passEnd 0 [some (vR 69 13 0), some (vR 45 18 0), some (vI a2), none] [] M (some (vI x)) N := by
  unfold f_X3_passEnd at h
  refine Z_blk k_X3_passEnd 3 (pc' := 5) (lo' := [some (vR 69 13 0), some (vR 45 18 0), some (vI a2), none]) (st' := [vI a2, vR 51 0 60]) (M1 := M) rfl ?_
  obtain ⟨hc1, h⟩ := of_grd h
  refine Z_one k_X3_passEnd rfl (pc' := 6) (lo' := [some (vR 69 13 0), some (vR 45 18 0), some (vI a2), none]) (st' := [vI (M 51 (Int.toNat a2))]) (M1 := M) (if_pos hc1) ?_
  refine Z_blk k_X3_passEnd 4 (pc' := 12) (lo' := [some (vR 69 13 0), some (vR 45 18 0), some (vI a2), some (vI (M 51 (Int.toNat a2)))]) (st' := [vI (M 51 (Int.toNat a2)), vR 46 0 60]) (M1 := M) rfl ?_
  obtain ⟨hc2, h⟩ := of_grd h
  refine Z_one k_X3_passEnd rfl (pc' := 13) (lo' := [some (vR 69 13 0), some (vR 45 18 0), some (vI a2), some (vI (M 51 (Int.toNat a2)))]) (st' := [vI (M 46 (Int.toNat (M 51 (Int.toNat a2))))]) (M1 := M) (if_pos hc2) ?_
  refine Z_blk k_X3_passEnd 1 (pc' := 15) (lo' := [some (vR 69 13 0), some (vR 45 18 0), some (vI a2), some (vI (M 51 (Int.toNat a2)))]) (st' := [vI 20, vI (M 46 (Int.toNat (M 51 (Int.toNat a2))))]) (M1 := M) rfl ?_
  refine Z_icmp k_X3_passEnd rfl 42 rfl (fun hc => ?_) (fun hc => ?_)
  · replace h := of_pos hc h
    refine Z_blk k_X3_passEnd 3 (pc' := 45) (lo' := [some (vR 69 13 0), some (vR 45 18 0), some (vI a2), some (vI (M 51 (Int.toNat a2)))]) (st' := [vI (o_add a2 1)]) (M1 := M) rfl ?_
    cases h
    exact Z_ret ⟨Or.inl rfl, _, rfl⟩ rfl
  · replace h := of_neg hc h
    refine Z_blk k_X3_passEnd 3 (pc' := 23) (lo' := [some (vR 69 13 0), some (vR 45 18 0), some (vI a2), some (vI (M 51 (Int.toNat a2)))]) (st' := [vI (M 51 (Int.toNat a2)), vR 71 0 60]) (M1 := M) rfl ?_
    refine Z_one k_X3_passEnd rfl (pc' := 24) (lo' := [some (vR 69 13 0), some (vR 45 18 0), some (vI a2), some (vI (M 51 (Int.toNat a2)))]) (st' := [vI (M 71 (Int.toNat (M 51 (Int.toNat a2))))]) (M1 := M) (if_pos hc2) ?_
    refine Z_blk k_X3_passEnd 1 (pc' := 25) (lo' := [some (vR 69 13 0), some (vR 45 18 0), some (vI a2), some (vI (M 51 (Int.toNat a2)))]) (st' := [vI 1, vI (M 71 (Int.toNat (M 51 (Int.toNat a2))))]) (M1 := M) rfl ?_
    refine Z_icmp k_X3_passEnd rfl 42 rfl (fun hc => ?_) (fun hc => ?_)
    · replace h := of_pos hc h
      refine Z_blk k_X3_passEnd 3 (pc' := 45) (lo' := [some (vR 69 13 0), some (vR 45 18 0), some (vI a2), some (vI (M 51 (Int.toNat a2)))]) (st' := [vI (o_add a2 1)]) (M1 := M) rfl ?_
      cases h
      exact Z_ret ⟨Or.inl rfl, _, rfl⟩ rfl
    · replace h := of_neg hc h
      refine Z_blk k_X3_passEnd 4 (pc' := 34) (lo' := [some (vR 69 13 0), some (vR 45 18 0), some (vI a2), some (vI (M 51 (Int.toNat a2)))]) (st' := [vI (M 51 (Int.toNat a2)), vR 71 0 60, vI (M 51 (Int.toNat a2)), vR 71 0 60]) (M1 := M) rfl ?_
      refine Z_one k_X3_passEnd rfl (pc' := 35) (lo' := [some (vR 69 13 0), some (vR 45 18 0), some (vI a2), some (vI (M 51 (Int.toNat a2)))]) (st' := [vI (M 71 (Int.toNat (M 51 (Int.toNat a2)))), vI (M 51 (Int.toNat a2)), vR 71 0 60]) (M1 := M) (if_pos hc2) ?_
      refine Z_blk k_X3_passEnd 2 (pc' := 37) (lo' := [some (vR 69 13 0), some (vR 45 18 0), some (vI a2), some (vI (M 51 (Int.toNat a2)))]) (st' := [vI (o_sub (M 71 (Int.toNat (M 51 (Int.toNat a2)))) 1), vI (M 51 (Int.toNat a2)), vR 71 0 60]) (M1 := M) rfl ?_
      obtain ⟨M3, eM3, h⟩ := of_zlet h
      refine Z_one k_X3_passEnd rfl (pc' := 38) (lo' := [some (vR 69 13 0), some (vR 45 18 0), some (vI a2), some (vI (M 51 (Int.toNat a2)))]) (st' := []) (M1 := M3) (by rw [eM3]; exact if_pos hc2) ?_
      refine Z_blk k_X3_passEnd 3 (pc' := 41) (lo' := [some (vR 69 13 0), some (vR 45 18 0), some (vI a2), some (vI (M 51 (Int.toNat a2)))]) (st' := [vI (o_add (M 51 (Int.toNat a2)) 1)]) (M1 := M3) rfl ?_
      cases h
      exact Z_ret ⟨Or.inl rfl, _, rfl⟩ rfl
theorem l_3_34 : zhas 5178 (Jvm.Cond.methodLink "BellPullHouse$Life" 34 yJ7_fill_53178) = true := by decide +kernel
theorem l_3_47 : zhas 5180 (Jvm.Cond.methodLink "BellPullHouse$Life" 47 yX3_passEnd) = true := by decide +kernel
theorem l_3_51 : zhas 5184 (Jvm.Cond.methodLink "BellPullHouse$Life" 51 yX3_doStep) = true := by decide +kernel
def f_X3_lead_24 : Nat → Nat → Int → Int → AM → Option (AM)
  | 0, _, _, _, _ => none
  | n + 1, b1, a4, a5, M => if 1000000 ≤ a5 then some M else (if M 45 2 ≤ a4 then some M else (if 0 ≤ a4 ∧ a4 < 60 then (if ¬ M 46 (Int.toNat a4) = 21 then (if M 69 0 < 300 then (zlet (am_upd M 69 0 (o_add (M 69 0) 1)) fun M2 => (f_X3_doStep b1 a4 M2).bind fun x3 => f_X3_lead_24 n b1 x3.1 (o_add a5 1) x3.2) else (zlet (am_upd M 70 (Int.toNat 4) 1) fun M4 => some M4)) else ((f_X3_passEnd a4 M).bind fun x5 => f_X3_lead_24 n b1 x5.1 (o_add a5 1) x5.2)) else none))
theorem e_X3_lead_24 {Y : List (Nat × Nat)} (d : Nat) : ∀ (n : Nat) (b1 : Nat) (a4 : Int) (a5 : Int) (M : AM) (N : AM), f_X3_lead_24 n b1 a4 a5 M = some N → Ev Y (d + 6) m_X3_lead 24 [some (vR 69 13 0), some (vR b1 11 0), some (vR 45 18 0), none, some (vI a4), some (vI a5)] [] M none N := by
  intro n
  induction n with
  | zero => intro b1 a4 a5 M N h; cases h
  | succ n ih =>
    intro b1 a4 a5 M N h
    simp only [f_X3_lead_24] at h
    refine Z_blk k_X3_lead 2 (pc' := 28) (lo' := [some (vR 69 13 0), some (vR b1 11 0), some (vR 45 18 0), none, some (vI a4), some (vI a5)]) (st' := [vI 1000000, vI a5]) (M1 := M) rfl ?_
    refine Z_icmp k_X3_lead rfl 108 rfl (fun hc => ?_) (fun hc => ?_)
    · replace h := of_pos hc h
      cases h
      exact Z_ret ⟨rfl, _, rfl⟩ rfl
    · replace h := of_neg hc h
      refine Z_blk k_X3_lead 3 (pc' := 37) (lo' := [some (vR 69 13 0), some (vR b1 11 0), some (vR 45 18 0), none, some (vI a4), some (vI a5)]) (st' := [vI (M 45 2), vI a4]) (M1 := M) rfl ?_
      refine Z_icmp k_X3_lead rfl 108 rfl (fun hc => ?_) (fun hc => ?_)
      · replace h := of_pos hc h
        cases h
        exact Z_ret ⟨rfl, _, rfl⟩ rfl
      · replace h := of_neg hc h
        refine Z_blk k_X3_lead 3 (pc' := 46) (lo' := [some (vR 69 13 0), some (vR b1 11 0), some (vR 45 18 0), none, some (vI a4), some (vI a5)]) (st' := [vI a4, vR 46 0 60]) (M1 := M) rfl ?_
        obtain ⟨hc1, h⟩ := of_grd h
        refine Z_one k_X3_lead rfl (pc' := 47) (lo' := [some (vR 69 13 0), some (vR b1 11 0), some (vR 45 18 0), none, some (vI a4), some (vI a5)]) (st' := [vI (M 46 (Int.toNat a4))]) (M1 := M) (if_pos hc1) ?_
        refine Z_blk k_X3_lead 1 (pc' := 49) (lo' := [some (vR 69 13 0), some (vR b1 11 0), some (vR 45 18 0), none, some (vI a4), some (vI a5)]) (st' := [vI 21, vI (M 46 (Int.toNat a4))]) (M1 := M) rfl ?_
        refine Z_icmp k_X3_lead rfl 64 rfl (fun hc => ?_) (fun hc => ?_)
        · replace h := of_pos hc h
          refine Z_blk k_X3_lead 3 (pc' := 71) (lo' := [some (vR 69 13 0), some (vR b1 11 0), some (vR 45 18 0), none, some (vI a4), some (vI a5)]) (st' := [vI 300, vI (M 69 0)]) (M1 := M) rfl ?_
          refine Z_icmp k_X3_lead rfl 82 rfl (fun hc => ?_) (fun hc => ?_)
          · replace h := of_pos hc h
            obtain ⟨M2, eM2, h⟩ := of_zlet h
            refine Z_blk k_X3_lead 6 (pc' := 92) (lo' := [some (vR 69 13 0), some (vR b1 11 0), some (vR 45 18 0), none, some (vI a4), some (vI a5)]) (st' := []) (M1 := M2) (by rw [eM2]; rfl) ?_
            refine Z_blk k_X3_lead 4 (pc' := 97) (lo' := [some (vR 69 13 0), some (vR b1 11 0), some (vR 45 18 0), none, some (vI a4), some (vI a5)]) (st' := [vI a4, vR 45 18 0, vR b1 11 0, vR 69 13 0]) (M1 := M2) rfl ?_
            obtain ⟨x3, hx3, h⟩ := Option.bind_eq_some_iff.mp h
            refine Z_callV8 k_X3_lead k_X3_doStep rfl rfl (l_3_51) (ci := 3) rfl [vR b1 11 0, vR 45 18 0, vI a4] [] rfl rfl (Nat.le_of_ble_eq_true rfl) (Nat.le_of_ble_eq_true rfl) (e_X3_doStep (d + 0) b1 a4 M2 _ _ hx3) ?_
            refine Z_blk k_X3_lead 3 (pc' := 24) (lo' := [some (vR 69 13 0), some (vR b1 11 0), some (vR 45 18 0), none, some (vI x3.1), some (vI (o_add a5 1))]) (st' := []) (M1 := x3.2) rfl ?_
            refine Z_mask [true, true, true, false, true, true] (lo0 := [some (vR 69 13 0), some (vR b1 11 0), some (vR 45 18 0), none, some (vI x3.1), some (vI (o_add a5 1))]) rfl ?_
            exact ih b1 x3.1 (o_add a5 1) x3.2 _ h
          · replace h := of_neg hc h
            refine Z_blk k_X3_lead 4 (pc' := 80) (lo' := [some (vR 69 13 0), some (vR b1 11 0), some (vR 45 18 0), none, some (vI a4), some (vI a5)]) (st' := [vI 1, vI 4, vR 70 0 5]) (M1 := M) rfl ?_
            obtain ⟨M4, eM4, h⟩ := of_zlet h
            refine Z_one k_X3_lead rfl (pc' := 81) (lo' := [some (vR 69 13 0), some (vR b1 11 0), some (vR 45 18 0), none, some (vI a4), some (vI a5)]) (st' := []) (M1 := M4) (by rw [eM4]; exact rfl) ?_
            cases h
            exact Z_ret ⟨rfl, _, rfl⟩ rfl
        · replace h := of_neg hc h
          refine Z_blk k_X3_lead 3 (pc' := 56) (lo' := [some (vR 69 13 0), some (vR b1 11 0), some (vR 45 18 0), none, some (vI a4), some (vI a5)]) (st' := [vI a4, vR 45 18 0, vR 69 13 0]) (M1 := M) rfl ?_
          obtain ⟨x5, hx5, h⟩ := Option.bind_eq_some_iff.mp h
          refine Z_callV8 k_X3_lead k_X3_passEnd rfl rfl (l_3_47) (ci := 3) rfl [vR 45 18 0, vI a4] [] rfl rfl (Nat.le_of_ble_eq_true rfl) (Nat.le_of_ble_eq_true rfl) (e_X3_passEnd (d + 5) a4 M _ _ hx5) ?_
          refine Z_blk k_X3_lead 4 (pc' := 24) (lo' := [some (vR 69 13 0), some (vR b1 11 0), some (vR 45 18 0), none, some (vI x5.1), some (vI (o_add a5 1))]) (st' := []) (M1 := x5.2) rfl ?_
          refine Z_mask [true, true, true, false, true, true] (lo0 := [some (vR 69 13 0), some (vR b1 11 0), some (vR 45 18 0), none, some (vI x5.1), some (vI (o_add a5 1))]) rfl ?_
          exact ih b1 x5.1 (o_add a5 1) x5.2 _ h
def f_X3_lead (b1 : Nat) (a3 : Int) (M : AM) : Option (AM) := zlet (am_upd M 69 0 0) fun M1 => zlet (am_upd M1 69 4 a3) fun M2 => (f_J7_fill_53178 70 5 0 M2).bind fun x3 => f_X3_lead_24 zB b1 0 0 x3
theorem e_X3_lead {Y : List (Nat × Nat)} (d : Nat) (b1 : Nat) (a3 : Int) (M : AM) (N : AM) (h : f_X3_lead b1 a3 M = some N) : Ev Y (d + 6) m_X3_lead 0 [some (vR 69 13 0), some (vR b1 11 0), some (vR 45 18 0), some (vI a3), none, none] [] M none N := by
  unfold f_X3_lead at h
  obtain ⟨M1, eM1, h⟩ := of_zlet h
  refine Z_blk k_X3_lead 3 (pc' := 5) (lo' := [some (vR 69 13 0), some (vR b1 11 0), some (vR 45 18 0), some (vI a3), none, none]) (st' := []) (M1 := M1) (by rw [eM1]; rfl) ?_
  obtain ⟨M2, eM2, h⟩ := of_zlet h
  refine Z_blk k_X3_lead 3 (pc' := 10) (lo' := [some (vR 69 13 0), some (vR b1 11 0), some (vR 45 18 0), some (vI a3), none, none]) (st' := []) (M1 := M2) (by rw [eM2]; rfl) ?_
  refine Z_blk k_X3_lead 3 (pc' := 15) (lo' := [some (vR 69 13 0), some (vR b1 11 0), some (vR 45 18 0), some (vI a3), none, none]) (st' := [vI 0, vR 70 0 5]) (M1 := M2) rfl ?_
  obtain ⟨x3, hx3, h⟩ := Option.bind_eq_some_iff.mp h
  refine Z_callS8 k_X3_lead k_J7_fill_53178 rfl rfl (l_3_34) [vR 70 0 5, vI 0] [] rfl rfl (Nat.le_of_ble_eq_true rfl) (Nat.le_of_ble_eq_true rfl) (e_J7_fill_53178 (d + 5) 70 5 0 M2 _ hx3) ?_
  refine Z_blk k_X3_lead 4 (pc' := 24) (lo' := [some (vR 69 13 0), some (vR b1 11 0), some (vR 45 18 0), some (vI a3), some (vI 0), some (vI 0)]) (st' := []) (M1 := x3) rfl ?_
  refine Z_mask [true, true, true, false, true, true] (lo0 := [some (vR 69 13 0), some (vR b1 11 0), some (vR 45 18 0), none, some (vI 0), some (vI 0)]) rfl ?_
  exact e_X3_lead_24 d zB b1 0 0 x3 _ h
theorem l_4_54 : zhas 5112 (Jvm.Cond.methodLink "BellPullHouse$Pairs" 54 yX1_distance) = true := by decide +kernel
def f_X4_nextToAsk_13 : Nat → Int → Int → Int → Int → AM → Option (Int × AM)
  | 0, _, _, _, _, _ => none
  | n + 1, a2, a3, a4, a5, M => if M 23 4 ≤ a5 then some (a3, M) else (if 0 ≤ a2 ∧ a2 < 6 then (if 0 ≤ a5 ∧ a5 < 6 then ((f_X1_distance 23 (M 27 (Int.toNat a2)) (M 28 (Int.toNat a5)) M).bind fun x3 => if ¬ o_and (o_shr (x3.2 68 (Int.toNat a2)) a5) 1 = 0 then f_X4_nextToAsk_13 n a2 a3 a4 (o_add a5 1) x3.2 else (if a4 ≤ x3.1 then f_X4_nextToAsk_13 n a2 a3 a4 (o_add a5 1) x3.2 else f_X4_nextToAsk_13 n a2 a5 x3.1 (o_add a5 1) x3.2)) else none) else none)
theorem e_X4_nextToAsk_13 {Y : List (Nat × Nat)} (d : Nat) : ∀ (n : Nat) (a2 : Int) (a3 : Int) (a4 : Int) (a5 : Int) (M : AM) (x : Int) (N : AM), f_X4_nextToAsk_13 n a2 a3 a4 a5 M = some (x, N) → Ev Y (d + 3) m_X4_nextToAsk 13 [some (vR 65 14 0), some (vR 23 11 0), some (vI a2), some (vI a3), some (vI a4), some (vI a5), none] [] M (some (vI x)) N := by
  intro n
  induction n with
  | zero => intro a2 a3 a4 a5 M x N h; cases h
  | succ n ih =>
    intro a2 a3 a4 a5 M x N h
    simp only [f_X4_nextToAsk_13] at h
    refine Z_blk k_X4_nextToAsk 3 (pc' := 19) (lo' := [some (vR 65 14 0), some (vR 23 11 0), some (vI a2), some (vI a3), some (vI a4), some (vI a5), none]) (st' := [vI (M 23 4), vI a5]) (M1 := M) rfl ?_
    refine Z_icmp k_X4_nextToAsk rfl 75 rfl (fun hc => ?_) (fun hc => ?_)
    · replace h := of_pos hc h
      refine Z_blk k_X4_nextToAsk 1 (pc' := 76) (lo' := [some (vR 65 14 0), some (vR 23 11 0), some (vI a2), some (vI a3), some (vI a4), some (vI a5), none]) (st' := [vI a3]) (M1 := M) rfl ?_
      cases h
      exact Z_ret ⟨Or.inl rfl, _, rfl⟩ rfl
    · replace h := of_neg hc h
      refine Z_blk k_X4_nextToAsk 4 (pc' := 28) (lo' := [some (vR 65 14 0), some (vR 23 11 0), some (vI a2), some (vI a3), some (vI a4), some (vI a5), none]) (st' := [vI a2, vR 27 0 6, vR 23 11 0]) (M1 := M) rfl ?_
      obtain ⟨hc1, h⟩ := of_grd h
      refine Z_one k_X4_nextToAsk rfl (pc' := 29) (lo' := [some (vR 65 14 0), some (vR 23 11 0), some (vI a2), some (vI a3), some (vI a4), some (vI a5), none]) (st' := [vI (M 27 (Int.toNat a2)), vR 23 11 0]) (M1 := M) (if_pos hc1) ?_
      refine Z_blk k_X4_nextToAsk 3 (pc' := 35) (lo' := [some (vR 65 14 0), some (vR 23 11 0), some (vI a2), some (vI a3), some (vI a4), some (vI a5), none]) (st' := [vI a5, vR 28 0 6, vI (M 27 (Int.toNat a2)), vR 23 11 0]) (M1 := M) rfl ?_
      obtain ⟨hc2, h⟩ := of_grd h
      refine Z_one k_X4_nextToAsk rfl (pc' := 36) (lo' := [some (vR 65 14 0), some (vR 23 11 0), some (vI a2), some (vI a3), some (vI a4), some (vI a5), none]) (st' := [vI (M 28 (Int.toNat a5)), vI (M 27 (Int.toNat a2)), vR 23 11 0]) (M1 := M) (if_pos hc2) ?_
      obtain ⟨x3, hx3, h⟩ := Option.bind_eq_some_iff.mp h
      refine Z_callV8 k_X4_nextToAsk k_X1_distance rfl rfl (l_4_54) (ci := 1) rfl [vI (M 27 (Int.toNat a2)), vI (M 28 (Int.toNat a5))] [] rfl rfl (Nat.le_of_ble_eq_true rfl) (Nat.le_of_ble_eq_true rfl) (e_X1_distance (d + 0) 23 (M 27 (Int.toNat a2)) (M 28 (Int.toNat a5)) M _ _ hx3) ?_
      refine Z_blk k_X4_nextToAsk 4 (pc' := 46) (lo' := [some (vR 65 14 0), some (vR 23 11 0), some (vI a2), some (vI a3), some (vI a4), some (vI a5), some (vI x3.1)]) (st' := [vI a2, vR 68 0 6]) (M1 := x3.2) rfl ?_
      refine Z_one k_X4_nextToAsk rfl (pc' := 47) (lo' := [some (vR 65 14 0), some (vR 23 11 0), some (vI a2), some (vI a3), some (vI a4), some (vI a5), some (vI x3.1)]) (st' := [vI (x3.2 68 (Int.toNat a2))]) (M1 := x3.2) (if_pos hc1) ?_
      refine Z_blk k_X4_nextToAsk 4 (pc' := 52) (lo' := [some (vR 65 14 0), some (vR 23 11 0), some (vI a2), some (vI a3), some (vI a4), some (vI a5), some (vI x3.1)]) (st' := [vI (o_and (o_shr (x3.2 68 (Int.toNat a2)) a5) 1)]) (M1 := x3.2) rfl ?_
      refine Z_if k_X4_nextToAsk rfl 69 rfl (fun hc => ?_) (fun hc => ?_)
      · replace h := of_pos hc h
        refine Z_blk k_X4_nextToAsk 2 (pc' := 13) (lo' := [some (vR 65 14 0), some (vR 23 11 0), some (vI a2), some (vI a3), some (vI a4), some (vI (o_add a5 1)), some (vI x3.1)]) (st' := []) (M1 := x3.2) rfl ?_
        refine Z_mask [true, true, true, true, true, true, false] (lo0 := [some (vR 65 14 0), some (vR 23 11 0), some (vI a2), some (vI a3), some (vI a4), some (vI (o_add a5 1)), none]) rfl ?_
        exact ih a2 a3 a4 (o_add a5 1) x3.2 _ _ h
      · replace h := of_neg hc h
        refine Z_blk k_X4_nextToAsk 2 (pc' := 59) (lo' := [some (vR 65 14 0), some (vR 23 11 0), some (vI a2), some (vI a3), some (vI a4), some (vI a5), some (vI x3.1)]) (st' := [vI a4, vI x3.1]) (M1 := x3.2) rfl ?_
        refine Z_icmp k_X4_nextToAsk rfl 69 rfl (fun hc => ?_) (fun hc => ?_)
        · replace h := of_pos hc h
          refine Z_blk k_X4_nextToAsk 2 (pc' := 13) (lo' := [some (vR 65 14 0), some (vR 23 11 0), some (vI a2), some (vI a3), some (vI a4), some (vI (o_add a5 1)), some (vI x3.1)]) (st' := []) (M1 := x3.2) rfl ?_
          refine Z_mask [true, true, true, true, true, true, false] (lo0 := [some (vR 65 14 0), some (vR 23 11 0), some (vI a2), some (vI a3), some (vI a4), some (vI (o_add a5 1)), none]) rfl ?_
          exact ih a2 a3 a4 (o_add a5 1) x3.2 _ _ h
        · replace h := of_neg hc h
          refine Z_blk k_X4_nextToAsk 6 (pc' := 13) (lo' := [some (vR 65 14 0), some (vR 23 11 0), some (vI a2), some (vI a5), some (vI x3.1), some (vI (o_add a5 1)), some (vI x3.1)]) (st' := []) (M1 := x3.2) rfl ?_
          refine Z_mask [true, true, true, true, true, true, false] (lo0 := [some (vR 65 14 0), some (vR 23 11 0), some (vI a2), some (vI a5), some (vI x3.1), some (vI (o_add a5 1)), none]) rfl ?_
          exact ih a2 a5 x3.1 (o_add a5 1) x3.2 _ _ h
def f_X4_nextToAsk (a2 : Int) (M : AM) : Option (Int × AM) := f_X4_nextToAsk_13 zB a2 (-1) (o_add (M 23 0) 1) 0 M
theorem e_X4_nextToAsk {Y : List (Nat × Nat)} (d : Nat) (a2 : Int) (M : AM) (x : Int) (N : AM) (h : f_X4_nextToAsk a2 M = some (x, N)) : Ev Y (d + 3) m_X4_nextToAsk 0 [some (vR 65 14 0), some (vR 23 11 0), some (vI a2), none, none, none, none] [] M (some (vI x)) N := by
  unfold f_X4_nextToAsk at h
  refine Z_blk k_X4_nextToAsk 9 (pc' := 13) (lo' := [some (vR 65 14 0), some (vR 23 11 0), some (vI a2), some (vI (-1)), some (vI (o_add (M 23 0) 1)), some (vI 0), none]) (st' := []) (M1 := M) rfl ?_
  refine Z_mask [true, true, true, true, true, true, false] (lo0 := [some (vR 65 14 0), some (vR 23 11 0), some (vI a2), some (vI (-1)), some (vI (o_add (M 23 0) 1)), some (vI 0), none]) rfl ?_
  exact e_X4_nextToAsk_13 d zB a2 (-1) (o_add (M 23 0) 1) 0 M _ _ h
def f_X4_propose (a2 : Int) (a3 : Int) (M : AM) : Option (AM) := if 0 ≤ a3 ∧ a3 < 6 then (if M 67 (Int.toNat a3) = (-1) then (zlet (am_upd M 67 (Int.toNat a3) a2) fun M2 => if 0 ≤ a2 ∧ a2 < 6 then (zlet (am_upd M2 66 (Int.toNat a2) a3) fun M4 => some M4) else none) else (if 0 ≤ a2 ∧ a2 < 6 then ((f_X1_distance 23 (M 27 (Int.toNat a2)) (M 28 (Int.toNat a3)) M).bind fun x6 => if 0 ≤ M 67 (Int.toNat a3) ∧ M 67 (Int.toNat a3) < 6 then ((f_X1_distance 23 (x6.2 27 (Int.toNat (M 67 (Int.toNat a3)))) (x6.2 28 (Int.toNat a3)) x6.2).bind fun x8 => if x6.1 < x8.1 then (zlet (am_upd x8.2 66 (Int.toNat (M 67 (Int.toNat a3))) (-1)) fun M9 => zlet (am_upd M9 67 (Int.toNat a3) a2) fun M10 => zlet (am_upd M10 66 (Int.toNat a2) a3) fun M11 => some M11) else some x8.2) else none) else none)) else none
theorem e_X4_propose {Y : List (Nat × Nat)} (d : Nat) (a2 : Int) (a3 : Int) (M : AM) (N : AM) (h : f_X4_propose a2 a3 M = some N) : Ev Y (d + 3) m_X4_propose 0 [some (vR 65 14 0), some (vR 23 11 0), some (vI a2), some (vI a3), none, none] [] M none N := by
  unfold f_X4_propose at h
  refine Z_blk k_X4_propose 3 (pc' := 5) (lo' := [some (vR 65 14 0), some (vR 23 11 0), some (vI a2), some (vI a3), none, none]) (st' := [vI a3, vR 67 0 6]) (M1 := M) rfl ?_
  obtain ⟨hc1, h⟩ := of_grd h
  refine Z_one k_X4_propose rfl (pc' := 6) (lo' := [some (vR 65 14 0), some (vR 23 11 0), some (vI a2), some (vI a3), none, none]) (st' := [vI (M 67 (Int.toNat a3))]) (M1 := M) (if_pos hc1) ?_
  refine Z_blk k_X4_propose 3 (pc' := 11) (lo' := [some (vR 65 14 0), some (vR 23 11 0), some (vI a2), some (vI a3), some (vI (M 67 (Int.toNat a3))), none]) (st' := [vI (-1), vI (M 67 (Int.toNat a3))]) (M1 := M) rfl ?_
  refine Z_icmp k_X4_propose rfl 63 rfl (fun hc => ?_) (fun hc => ?_)
  · replace h := of_pos hc h
    refine Z_blk k_X4_propose 4 (pc' := 69) (lo' := [some (vR 65 14 0), some (vR 23 11 0), some (vI a2), some (vI a3), some (vI (M 67 (Int.toNat a3))), none]) (st' := [vI a2, vI a3, vR 67 0 6]) (M1 := M) rfl ?_
    obtain ⟨M2, eM2, h⟩ := of_zlet h
    refine Z_one k_X4_propose rfl (pc' := 70) (lo' := [some (vR 65 14 0), some (vR 23 11 0), some (vI a2), some (vI a3), some (vI (M 67 (Int.toNat a3))), none]) (st' := []) (M1 := M2) (by rw [eM2]; exact if_pos hc1) ?_
    refine Z_blk k_X4_propose 4 (pc' := 76) (lo' := [some (vR 65 14 0), some (vR 23 11 0), some (vI a2), some (vI a3), some (vI (M 67 (Int.toNat a3))), none]) (st' := [vI a3, vI a2, vR 66 0 6]) (M1 := M2) rfl ?_
    obtain ⟨hc3, h⟩ := of_grd h
    obtain ⟨M4, eM4, h⟩ := of_zlet h
    refine Z_one k_X4_propose rfl (pc' := 77) (lo' := [some (vR 65 14 0), some (vR 23 11 0), some (vI a2), some (vI a3), some (vI (M 67 (Int.toNat a3))), none]) (st' := []) (M1 := M4) (by rw [eM4]; exact if_pos hc3) ?_
    cases h
    exact Z_ret ⟨rfl, _, rfl⟩ rfl
  · replace h := of_neg hc h
    refine Z_blk k_X4_propose 4 (pc' := 20) (lo' := [some (vR 65 14 0), some (vR 23 11 0), some (vI a2), some (vI a3), some (vI (M 67 (Int.toNat a3))), none]) (st' := [vI a2, vR 27 0 6, vR 23 11 0]) (M1 := M) rfl ?_
    obtain ⟨hc5, h⟩ := of_grd h
    refine Z_one k_X4_propose rfl (pc' := 21) (lo' := [some (vR 65 14 0), some (vR 23 11 0), some (vI a2), some (vI a3), some (vI (M 67 (Int.toNat a3))), none]) (st' := [vI (M 27 (Int.toNat a2)), vR 23 11 0]) (M1 := M) (if_pos hc5) ?_
    refine Z_blk k_X4_propose 3 (pc' := 26) (lo' := [some (vR 65 14 0), some (vR 23 11 0), some (vI a2), some (vI a3), some (vI (M 67 (Int.toNat a3))), none]) (st' := [vI a3, vR 28 0 6, vI (M 27 (Int.toNat a2)), vR 23 11 0]) (M1 := M) rfl ?_
    refine Z_one k_X4_propose rfl (pc' := 27) (lo' := [some (vR 65 14 0), some (vR 23 11 0), some (vI a2), some (vI a3), some (vI (M 67 (Int.toNat a3))), none]) (st' := [vI (M 28 (Int.toNat a3)), vI (M 27 (Int.toNat a2)), vR 23 11 0]) (M1 := M) (if_pos hc1) ?_
    obtain ⟨x6, hx6, h⟩ := Option.bind_eq_some_iff.mp h
    refine Z_callV8 k_X4_propose k_X1_distance rfl rfl (l_4_54) (ci := 1) rfl [vI (M 27 (Int.toNat a2)), vI (M 28 (Int.toNat a3))] [] rfl rfl (Nat.le_of_ble_eq_true rfl) (Nat.le_of_ble_eq_true rfl) (e_X1_distance (d + 0) 23 (M 27 (Int.toNat a2)) (M 28 (Int.toNat a3)) M _ _ hx6) ?_
    refine Z_blk k_X4_propose 5 (pc' := 39) (lo' := [some (vR 65 14 0), some (vR 23 11 0), some (vI a2), some (vI a3), some (vI (M 67 (Int.toNat a3))), some (vI x6.1)]) (st' := [vI (M 67 (Int.toNat a3)), vR 27 0 6, vR 23 11 0]) (M1 := x6.2) rfl ?_
    obtain ⟨hc7, h⟩ := of_grd h
    refine Z_one k_X4_propose rfl (pc' := 40) (lo' := [some (vR 65 14 0), some (vR 23 11 0), some (vI a2), some (vI a3), some (vI (M 67 (Int.toNat a3))), some (vI x6.1)]) (st' := [vI (x6.2 27 (Int.toNat (M 67 (Int.toNat a3)))), vR 23 11 0]) (M1 := x6.2) (if_pos hc7) ?_
    refine Z_blk k_X4_propose 3 (pc' := 45) (lo' := [some (vR 65 14 0), some (vR 23 11 0), some (vI a2), some (vI a3), some (vI (M 67 (Int.toNat a3))), some (vI x6.1)]) (st' := [vI a3, vR 28 0 6, vI (x6.2 27 (Int.toNat (M 67 (Int.toNat a3)))), vR 23 11 0]) (M1 := x6.2) rfl ?_
    refine Z_one k_X4_propose rfl (pc' := 46) (lo' := [some (vR 65 14 0), some (vR 23 11 0), some (vI a2), some (vI a3), some (vI (M 67 (Int.toNat a3))), some (vI x6.1)]) (st' := [vI (x6.2 28 (Int.toNat a3)), vI (x6.2 27 (Int.toNat (M 67 (Int.toNat a3)))), vR 23 11 0]) (M1 := x6.2) (if_pos hc1) ?_
    obtain ⟨x8, hx8, h⟩ := Option.bind_eq_some_iff.mp h
    refine Z_callV8 k_X4_propose k_X1_distance rfl rfl (l_4_54) (ci := 1) rfl [vI (x6.2 27 (Int.toNat (M 67 (Int.toNat a3)))), vI (x6.2 28 (Int.toNat a3))] [] rfl rfl (Nat.le_of_ble_eq_true rfl) (Nat.le_of_ble_eq_true rfl) (e_X1_distance (d + 0) 23 (x6.2 27 (Int.toNat (M 67 (Int.toNat a3)))) (x6.2 28 (Int.toNat a3)) x6.2 _ _ hx8) ?_
    refine Z_blk k_X4_propose 1 (pc' := 51) (lo' := [some (vR 65 14 0), some (vR 23 11 0), some (vI a2), some (vI a3), some (vI (M 67 (Int.toNat a3))), some (vI x6.1)]) (st' := [vI x6.1, vI x8.1]) (M1 := x8.2) rfl ?_
    refine Z_icmp k_X4_propose rfl 55 rfl (fun hc => ?_) (fun hc => ?_)
    · replace h := of_pos hc h
      refine Z_blk k_X4_propose 4 (pc' := 62) (lo' := [some (vR 65 14 0), some (vR 23 11 0), some (vI a2), some (vI a3), some (vI (M 67 (Int.toNat a3))), some (vI x6.1)]) (st' := [vI (-1), vI (M 67 (Int.toNat a3)), vR 66 0 6]) (M1 := x8.2) rfl ?_
      obtain ⟨M9, eM9, h⟩ := of_zlet h
      refine Z_one k_X4_propose rfl (pc' := 63) (lo' := [some (vR 65 14 0), some (vR 23 11 0), some (vI a2), some (vI a3), some (vI (M 67 (Int.toNat a3))), some (vI x6.1)]) (st' := []) (M1 := M9) (by rw [eM9]; exact if_pos hc7) ?_
      refine Z_blk k_X4_propose 4 (pc' := 69) (lo' := [some (vR 65 14 0), some (vR 23 11 0), some (vI a2), some (vI a3), some (vI (M 67 (Int.toNat a3))), some (vI x6.1)]) (st' := [vI a2, vI a3, vR 67 0 6]) (M1 := M9) rfl ?_
      obtain ⟨M10, eM10, h⟩ := of_zlet h
      refine Z_one k_X4_propose rfl (pc' := 70) (lo' := [some (vR 65 14 0), some (vR 23 11 0), some (vI a2), some (vI a3), some (vI (M 67 (Int.toNat a3))), some (vI x6.1)]) (st' := []) (M1 := M10) (by rw [eM10]; exact if_pos hc1) ?_
      refine Z_blk k_X4_propose 4 (pc' := 76) (lo' := [some (vR 65 14 0), some (vR 23 11 0), some (vI a2), some (vI a3), some (vI (M 67 (Int.toNat a3))), some (vI x6.1)]) (st' := [vI a3, vI a2, vR 66 0 6]) (M1 := M10) rfl ?_
      obtain ⟨M11, eM11, h⟩ := of_zlet h
      refine Z_one k_X4_propose rfl (pc' := 77) (lo' := [some (vR 65 14 0), some (vR 23 11 0), some (vI a2), some (vI a3), some (vI (M 67 (Int.toNat a3))), some (vI x6.1)]) (st' := []) (M1 := M11) (by rw [eM11]; exact if_pos hc5) ?_
      cases h
      exact Z_ret ⟨rfl, _, rfl⟩ rfl
    · replace h := of_neg hc h
      cases h
      exact Z_ret ⟨rfl, _, rfl⟩ rfl
theorem l_4_37 : zhas 5108 (Jvm.Cond.methodLink "BellPullHouse$Pairs" 37 yX4_nextToAsk) = true := by decide +kernel
theorem l_4_41 : zhas 5113 (Jvm.Cond.methodLink "BellPullHouse$Pairs" 41 yX4_propose) = true := by decide +kernel
def f_X4_askOnce_30 (k_2 : Int → AM → Option (AM)) (a2 : Int) (s0 : Int) (M : AM) : Option (AM) := if s0 = (-1) then k_2 (o_add a2 1) M else (if 0 ≤ a2 ∧ a2 < 6 then (zlet (am_upd M 68 (Int.toNat a2) (o_or (M 68 (Int.toNat a2)) (o_shl 1 s0))) fun M2 => (f_X4_propose a2 s0 M2).bind fun x3 => some x3) else none)
theorem e_X4_askOnce_30 {Y : List (Nat × Nat)} (d : Nat) (k_2 : Int → AM → Option (AM)) (hk_2 : ∀ (a2 : Int) (M : AM) (N : AM), k_2 a2 M = some N → Ev Y (d + 4) m_X4_askOnce 2 [some (vR 65 14 0), some (vR 23 11 0), some (vI a2), none] [] M none N) (a2 : Int) (s0 : Int) (M : AM) (N : AM) (h : f_X4_askOnce_30 k_2 a2 s0 M = some N) : Ev Y (d + 4) m_X4_askOnce 30 [some (vR 65 14 0), some (vR 23 11 0), some (vI a2), none] [vI s0] M none N := by
  unfold f_X4_askOnce_30 at h
  refine Z_blk k_X4_askOnce 3 (pc' := 33) (lo' := [some (vR 65 14 0), some (vR 23 11 0), some (vI a2), some (vI s0)]) (st' := [vI (-1), vI s0]) (M1 := M) rfl ?_
  refine Z_icmp k_X4_askOnce rfl 56 rfl (fun hc => ?_) (fun hc => ?_)
  · replace h := of_pos hc h
    refine Z_blk k_X4_askOnce 2 (pc' := 2) (lo' := [some (vR 65 14 0), some (vR 23 11 0), some (vI (o_add a2 1)), some (vI s0)]) (st' := []) (M1 := M) rfl ?_
    refine Z_mask [true, true, true, false] (lo0 := [some (vR 65 14 0), some (vR 23 11 0), some (vI (o_add a2 1)), none]) rfl ?_
    exact hk_2 (o_add a2 1) M _ h
  · replace h := of_neg hc h
    refine Z_blk k_X4_askOnce 4 (pc' := 42) (lo' := [some (vR 65 14 0), some (vR 23 11 0), some (vI a2), some (vI s0)]) (st' := [vI a2, vR 68 0 6, vI a2, vR 68 0 6]) (M1 := M) rfl ?_
    obtain ⟨hc1, h⟩ := of_grd h
    refine Z_one k_X4_askOnce rfl (pc' := 43) (lo' := [some (vR 65 14 0), some (vR 23 11 0), some (vI a2), some (vI s0)]) (st' := [vI (M 68 (Int.toNat a2)), vI a2, vR 68 0 6]) (M1 := M) (if_pos hc1) ?_
    refine Z_blk k_X4_askOnce 4 (pc' := 47) (lo' := [some (vR 65 14 0), some (vR 23 11 0), some (vI a2), some (vI s0)]) (st' := [vI (o_or (M 68 (Int.toNat a2)) (o_shl 1 s0)), vI a2, vR 68 0 6]) (M1 := M) rfl ?_
    obtain ⟨M2, eM2, h⟩ := of_zlet h
    refine Z_one k_X4_askOnce rfl (pc' := 48) (lo' := [some (vR 65 14 0), some (vR 23 11 0), some (vI a2), some (vI s0)]) (st' := []) (M1 := M2) (by rw [eM2]; exact if_pos hc1) ?_
    refine Z_blk k_X4_askOnce 4 (pc' := 52) (lo' := [some (vR 65 14 0), some (vR 23 11 0), some (vI a2), some (vI s0)]) (st' := [vI s0, vI a2, vR 23 11 0, vR 65 14 0]) (M1 := M2) rfl ?_
    obtain ⟨x3, hx3, h⟩ := Option.bind_eq_some_iff.mp h
    refine Z_callV8 k_X4_askOnce k_X4_propose rfl rfl (l_4_41) (ci := 4) rfl [vR 23 11 0, vI a2, vI s0] [] rfl rfl (Nat.le_of_ble_eq_true rfl) (Nat.le_of_ble_eq_true rfl) (e_X4_propose (d + 0) a2 s0 M2 _ hx3) ?_
    cases h
    exact Z_ret ⟨rfl, _, rfl⟩ rfl
def f_X4_askOnce_2 : Nat → Int → AM → Option (AM)
  | 0, _, _ => none
  | n + 1, a2, M => if M 23 4 ≤ a2 then some M else (if 0 ≤ a2 ∧ a2 < 6 then (if ¬ M 66 (Int.toNat a2) = (-1) then f_X4_askOnce_30 (f_X4_askOnce_2 n) a2 (-1) M else ((f_X4_nextToAsk a2 M).bind fun x2 => f_X4_askOnce_30 (f_X4_askOnce_2 n) a2 x2.1 x2.2)) else none)
theorem e_X4_askOnce_2 {Y : List (Nat × Nat)} (d : Nat) : ∀ (n : Nat) (a2 : Int) (M : AM) (N : AM), f_X4_askOnce_2 n a2 M = some N → Ev Y (d + 4) m_X4_askOnce 2 [some (vR 65 14 0), some (vR 23 11 0), some (vI a2), none] [] M none N := by
  intro n
  induction n with
  | zero => intro a2 M N h; cases h
  | succ n ih =>
    intro a2 M N h
    simp only [f_X4_askOnce_2] at h
    refine Z_blk k_X4_askOnce 3 (pc' := 7) (lo' := [some (vR 65 14 0), some (vR 23 11 0), some (vI a2), none]) (st' := [vI (M 23 4), vI a2]) (M1 := M) rfl ?_
    refine Z_icmp k_X4_askOnce rfl 62 rfl (fun hc => ?_) (fun hc => ?_)
    · replace h := of_pos hc h
      cases h
      exact Z_ret ⟨rfl, _, rfl⟩ rfl
    · replace h := of_neg hc h
      refine Z_blk k_X4_askOnce 3 (pc' := 15) (lo' := [some (vR 65 14 0), some (vR 23 11 0), some (vI a2), none]) (st' := [vI a2, vR 66 0 6]) (M1 := M) rfl ?_
      obtain ⟨hc1, h⟩ := of_grd h
      refine Z_one k_X4_askOnce rfl (pc' := 16) (lo' := [some (vR 65 14 0), some (vR 23 11 0), some (vI a2), none]) (st' := [vI (M 66 (Int.toNat a2))]) (M1 := M) (if_pos hc1) ?_
      refine Z_blk k_X4_askOnce 1 (pc' := 17) (lo' := [some (vR 65 14 0), some (vR 23 11 0), some (vI a2), none]) (st' := [vI (-1), vI (M 66 (Int.toNat a2))]) (M1 := M) rfl ?_
      refine Z_icmp k_X4_askOnce rfl 29 rfl (fun hc => ?_) (fun hc => ?_)
      · replace h := of_pos hc h
        refine Z_blk k_X4_askOnce 1 (pc' := 30) (lo' := [some (vR 65 14 0), some (vR 23 11 0), some (vI a2), none]) (st' := [vI (-1)]) (M1 := M) rfl ?_
        refine Z_mask [true, true, true, false] (lo0 := [some (vR 65 14 0), some (vR 23 11 0), some (vI a2), none]) rfl ?_
        exact e_X4_askOnce_30 d (f_X4_askOnce_2 n) ih a2 (-1) M _ h
      · replace h := of_neg hc h
        refine Z_blk k_X4_askOnce 3 (pc' := 23) (lo' := [some (vR 65 14 0), some (vR 23 11 0), some (vI a2), none]) (st' := [vI a2, vR 23 11 0, vR 65 14 0]) (M1 := M) rfl ?_
        obtain ⟨x2, hx2, h⟩ := Option.bind_eq_some_iff.mp h
        refine Z_callV8 k_X4_askOnce k_X4_nextToAsk rfl rfl (l_4_37) (ci := 4) rfl [vR 23 11 0, vI a2] [] rfl rfl (Nat.le_of_ble_eq_true rfl) (Nat.le_of_ble_eq_true rfl) (e_X4_nextToAsk (d + 0) a2 M _ _ hx2) ?_
        refine Z_blk k_X4_askOnce 1 (pc' := 30) (lo' := [some (vR 65 14 0), some (vR 23 11 0), some (vI a2), none]) (st' := [vI x2.1]) (M1 := x2.2) rfl ?_
        refine Z_mask [true, true, true, false] (lo0 := [some (vR 65 14 0), some (vR 23 11 0), some (vI a2), none]) rfl ?_
        exact e_X4_askOnce_30 d (f_X4_askOnce_2 n) ih a2 x2.1 x2.2 _ h
def f_X4_askOnce (M : AM) : Option (AM) := f_X4_askOnce_2 zB 0 M
theorem e_X4_askOnce {Y : List (Nat × Nat)} (d : Nat) (M : AM) (N : AM) (h : f_X4_askOnce M = some N) : Ev Y (d + 4) m_X4_askOnce 0 [some (vR 65 14 0), some (vR 23 11 0), none, none] [] M none N := by
  unfold f_X4_askOnce at h
  refine Z_blk k_X4_askOnce 2 (pc' := 2) (lo' := [some (vR 65 14 0), some (vR 23 11 0), some (vI 0), none]) (st' := []) (M1 := M) rfl ?_
  refine Z_mask [true, true, true, false] (lo0 := [some (vR 65 14 0), some (vR 23 11 0), some (vI 0), none]) rfl ?_
  exact e_X4_askOnce_2 d zB 0 M _ h
theorem l_4_21 : zhas 5103 (Jvm.Cond.methodLink "BellPullHouse$Pairs" 21 yJ7_fill_53178) = true := by decide +kernel
theorem l_4_27 : zhas 5104 (Jvm.Cond.methodLink "BellPullHouse$Pairs" 27 yX4_askOnce) = true := by decide +kernel
def f_X4_findAll_26 : Nat → Int → AM → Option (AM)
  | 0, _, _ => none
  | n + 1, a2, M => if 36 ≤ a2 then some M else ((f_X4_askOnce M).bind fun x1 => f_X4_findAll_26 n (o_add a2 1) x1)
theorem e_X4_findAll_26 {Y : List (Nat × Nat)} (d : Nat) : ∀ (n : Nat) (a2 : Int) (M : AM) (N : AM), f_X4_findAll_26 n a2 M = some N → Ev Y (d + 5) m_X4_findAll 26 [some (vR 65 14 0), some (vR 23 11 0), some (vI a2)] [] M none N := by
  intro n
  induction n with
  | zero => intro a2 M N h; cases h
  | succ n ih =>
    intro a2 M N h
    simp only [f_X4_findAll_26] at h
    refine Z_blk k_X4_findAll 2 (pc' := 29) (lo' := [some (vR 65 14 0), some (vR 23 11 0), some (vI a2)]) (st' := [vI 36, vI a2]) (M1 := M) rfl ?_
    refine Z_icmp k_X4_findAll rfl 43 rfl (fun hc => ?_) (fun hc => ?_)
    · replace h := of_pos hc h
      cases h
      exact Z_ret ⟨rfl, _, rfl⟩ rfl
    · replace h := of_neg hc h
      refine Z_blk k_X4_findAll 2 (pc' := 34) (lo' := [some (vR 65 14 0), some (vR 23 11 0), some (vI a2)]) (st' := [vR 23 11 0, vR 65 14 0]) (M1 := M) rfl ?_
      obtain ⟨x1, hx1, h⟩ := Option.bind_eq_some_iff.mp h
      refine Z_callV8 k_X4_findAll k_X4_askOnce rfl rfl (l_4_27) (ci := 4) rfl [vR 23 11 0] [] rfl rfl (Nat.le_of_ble_eq_true rfl) (Nat.le_of_ble_eq_true rfl) (e_X4_askOnce (d + 0) M _ hx1) ?_
      refine Z_blk k_X4_findAll 2 (pc' := 26) (lo' := [some (vR 65 14 0), some (vR 23 11 0), some (vI (o_add a2 1))]) (st' := []) (M1 := x1) rfl ?_
      refine Z_mask [true, true, true] (lo0 := [some (vR 65 14 0), some (vR 23 11 0), some (vI (o_add a2 1))]) rfl ?_
      exact ih (o_add a2 1) x1 _ h
def f_X4_findAll (M : AM) : Option (AM) := (f_J7_fill_53178 66 6 (-1) M).bind fun x1 => (f_J7_fill_53178 67 6 (-1) x1).bind fun x2 => (f_J7_fill_53178 68 6 0 x2).bind fun x3 => f_X4_findAll_26 zB 0 x3
theorem e_X4_findAll {Y : List (Nat × Nat)} (d : Nat) (M : AM) (N : AM) (h : f_X4_findAll M = some N) : Ev Y (d + 5) m_X4_findAll 0 [some (vR 65 14 0), some (vR 23 11 0), none] [] M none N := by
  unfold f_X4_findAll at h
  refine Z_blk k_X4_findAll 3 (pc' := 5) (lo' := [some (vR 65 14 0), some (vR 23 11 0), none]) (st' := [vI (-1), vR 66 0 6]) (M1 := M) rfl ?_
  obtain ⟨x1, hx1, h⟩ := Option.bind_eq_some_iff.mp h
  refine Z_callS8 k_X4_findAll k_J7_fill_53178 rfl rfl (l_4_21) [vR 66 0 6, vI (-1)] [] rfl rfl (Nat.le_of_ble_eq_true rfl) (Nat.le_of_ble_eq_true rfl) (e_J7_fill_53178 (d + 4) 66 6 (-1) M _ hx1) ?_
  refine Z_blk k_X4_findAll 3 (pc' := 13) (lo' := [some (vR 65 14 0), some (vR 23 11 0), none]) (st' := [vI (-1), vR 67 0 6]) (M1 := x1) rfl ?_
  obtain ⟨x2, hx2, h⟩ := Option.bind_eq_some_iff.mp h
  refine Z_callS8 k_X4_findAll k_J7_fill_53178 rfl rfl (l_4_21) [vR 67 0 6, vI (-1)] [] rfl rfl (Nat.le_of_ble_eq_true rfl) (Nat.le_of_ble_eq_true rfl) (e_J7_fill_53178 (d + 4) 67 6 (-1) x1 _ hx2) ?_
  refine Z_blk k_X4_findAll 3 (pc' := 21) (lo' := [some (vR 65 14 0), some (vR 23 11 0), none]) (st' := [vI 0, vR 68 0 6]) (M1 := x2) rfl ?_
  obtain ⟨x3, hx3, h⟩ := Option.bind_eq_some_iff.mp h
  refine Z_callS8 k_X4_findAll k_J7_fill_53178 rfl rfl (l_4_21) [vR 68 0 6, vI 0] [] rfl rfl (Nat.le_of_ble_eq_true rfl) (Nat.le_of_ble_eq_true rfl) (e_J7_fill_53178 (d + 4) 68 6 0 x2 _ hx3) ?_
  refine Z_blk k_X4_findAll 2 (pc' := 26) (lo' := [some (vR 65 14 0), some (vR 23 11 0), some (vI 0)]) (st' := []) (M1 := x3) rfl ?_
  refine Z_mask [true, true, true] (lo0 := [some (vR 65 14 0), some (vR 23 11 0), some (vI 0)]) rfl ?_
  exact e_X4_findAll_26 d zB 0 x3 _ h
def f_X5_feedInt_3 : Nat → Int → Int → AM → Option (AM)
  | 0, _, _, _ => none
  | n + 1, a1, a2, M => if a2 < 0 then some M else (if 900 ≤ M 20 7 then some M else (if 0 ≤ M 20 7 ∧ M 20 7 < 900 then (zlet (am_upd M 21 (Int.toNat (M 20 7)) (o_i2b (o_i2b (o_shr a1 a2)))) fun M2 => zlet (am_upd M2 20 7 (o_add (M2 20 7) 1)) fun M3 => f_X5_feedInt_3 n a1 (o_add a2 (-8)) M3) else none))
theorem e_X5_feedInt_3 {Y : List (Nat × Nat)} (d : Nat) : ∀ (n : Nat) (a1 : Int) (a2 : Int) (M : AM) (N : AM), f_X5_feedInt_3 n a1 a2 M = some N → Ev Y (d + 0) m_X5_feedInt 3 [some (vR 20 15 0), some (vI a1), some (vI a2)] [] M none N := by
  intro n
  induction n with
  | zero => intro a1 a2 M N h; cases h
  | succ n ih =>
    intro a1 a2 M N h
    simp only [f_X5_feedInt_3] at h
    refine Z_blk k_X5_feedInt 1 (pc' := 4) (lo' := [some (vR 20 15 0), some (vI a1), some (vI a2)]) (st' := [vI a2]) (M1 := M) rfl ?_
    refine Z_if k_X5_feedInt rfl 46 rfl (fun hc => ?_) (fun hc => ?_)
    · replace h := of_pos hc h
      cases h
      exact Z_ret ⟨rfl, _, rfl⟩ rfl
    · replace h := of_neg hc h
      refine Z_blk k_X5_feedInt 3 (pc' := 14) (lo' := [some (vR 20 15 0), some (vI a1), some (vI a2)]) (st' := [vI 900, vI (M 20 7)]) (M1 := M) rfl ?_
      refine Z_icmp k_X5_feedInt rfl 46 rfl (fun hc => ?_) (fun hc => ?_)
      · replace h := of_pos hc h
        cases h
        exact Z_ret ⟨rfl, _, rfl⟩ rfl
      · replace h := of_neg hc h
        refine Z_blk k_X5_feedInt 8 (pc' := 29) (lo' := [some (vR 20 15 0), some (vI a1), some (vI a2)]) (st' := [vI (o_i2b (o_shr a1 a2)), vI (M 20 7), vR 21 2 900]) (M1 := M) rfl ?_
        obtain ⟨hc1, h⟩ := of_grd h
        obtain ⟨M2, eM2, h⟩ := of_zlet h
        refine Z_one k_X5_feedInt rfl (pc' := 30) (lo' := [some (vR 20 15 0), some (vI a1), some (vI a2)]) (st' := []) (M1 := M2) (by rw [eM2]; exact if_pos hc1) ?_
        obtain ⟨M3, eM3, h⟩ := of_zlet h
        refine Z_blk k_X5_feedInt 6 (pc' := 40) (lo' := [some (vR 20 15 0), some (vI a1), some (vI a2)]) (st' := []) (M1 := M3) (by rw [eM3]; rfl) ?_
        refine Z_blk k_X5_feedInt 2 (pc' := 3) (lo' := [some (vR 20 15 0), some (vI a1), some (vI (o_add a2 (-8)))]) (st' := []) (M1 := M3) rfl ?_
        refine Z_mask [true, true, true] (lo0 := [some (vR 20 15 0), some (vI a1), some (vI (o_add a2 (-8)))]) rfl ?_
        exact ih a1 (o_add a2 (-8)) M3 _ h
def f_X5_feedInt (a1 : Int) (M : AM) : Option (AM) := f_X5_feedInt_3 zB a1 24 M
theorem e_X5_feedInt {Y : List (Nat × Nat)} (d : Nat) (a1 : Int) (M : AM) (N : AM) (h : f_X5_feedInt a1 M = some N) : Ev Y (d + 0) m_X5_feedInt 0 [some (vR 20 15 0), some (vI a1), none] [] M none N := by
  unfold f_X5_feedInt at h
  refine Z_blk k_X5_feedInt 2 (pc' := 3) (lo' := [some (vR 20 15 0), some (vI a1), some (vI 24)]) (st' := []) (M1 := M) rfl ?_
  refine Z_mask [true, true, true] (lo0 := [some (vR 20 15 0), some (vI a1), some (vI 24)]) rfl ?_
  exact e_X5_feedInt_3 d zB a1 24 M _ h
theorem l_6_26 : zhas 3015 (Jvm.Cond.methodLink "BellPullHouse$Tray" 26 yJ7_fill_d0a16) = true := by decide +kernel
def f_X6_make (q : Nat) (a1 : Int) (a2 : Int) (M : AM) : Option (AM) := zlet (am_upd M q 2 a1) fun M1 => zlet (am_upd M1 q 3 a2) fun M2 => zlet (am_upd M2 q 1 1) fun M3 => (f_J7_fill_d0a16 (q + 1) 60 0 M3).bind fun x4 => some x4
theorem e_X6_make {Y : List (Nat × Nat)} (d : Nat) (q : Nat) (a1 : Int) (a2 : Int) (M : AM) (N : AM) (h : f_X6_make q a1 a2 M = some N) : Ev Y (d + 1) m_X6_make 0 [some (vR q 16 0), some (vI a1), some (vI a2)] [] M none N := by
  unfold f_X6_make at h
  obtain ⟨M1, eM1, h⟩ := of_zlet h
  refine Z_blk k_X6_make 3 (pc' := 5) (lo' := [some (vR q 16 0), some (vI a1), some (vI a2)]) (st' := []) (M1 := M1) (by rw [eM1]; rfl) ?_
  obtain ⟨M2, eM2, h⟩ := of_zlet h
  refine Z_blk k_X6_make 3 (pc' := 10) (lo' := [some (vR q 16 0), some (vI a1), some (vI a2)]) (st' := []) (M1 := M2) (by rw [eM2]; rfl) ?_
  obtain ⟨M3, eM3, h⟩ := of_zlet h
  refine Z_blk k_X6_make 3 (pc' := 15) (lo' := [some (vR q 16 0), some (vI a1), some (vI a2)]) (st' := []) (M1 := M3) (by rw [eM3]; rfl) ?_
  refine Z_blk k_X6_make 3 (pc' := 20) (lo' := [some (vR q 16 0), some (vI a1), some (vI a2)]) (st' := [vL 0, vR (q + 1) 1 60]) (M1 := M3) rfl ?_
  obtain ⟨x4, hx4, h⟩ := Option.bind_eq_some_iff.mp h
  refine Z_callS8 k_X6_make k_J7_fill_d0a16 rfl rfl (l_6_26) [vR (q + 1) 1 60, vL 0] [] rfl rfl (Nat.le_of_ble_eq_true rfl) (Nat.le_of_ble_eq_true rfl) (e_J7_fill_d0a16 (d + 0) (q + 1) 60 0 M3 _ hx4) ?_
  cases h
  exact Z_ret ⟨rfl, _, rfl⟩ rfl
def f_X6_hasRow (q : Nat) (a1 : Int) (a2 : Int) (M : AM) : Option (Int × AM) := if a1 < 0 then some (0, M) else (if a2 < 0 then some (0, M) else (if M q 3 < a2 then some (0, M) else (if o_sub (M q 3) a2 < a1 then some (0, M) else some (1, M))))
theorem e_X6_hasRow {Y : List (Nat × Nat)} (d : Nat) (q : Nat) (a1 : Int) (a2 : Int) (M : AM) (x : Int) (N : AM) (h : f_X6_hasRow q a1 a2 M = some (x, N)) : Ev Y (d + 0) m_X6_hasRow 0 [some (vR q 16 0), some (vI a1), some (vI a2)] [] M (some (vI x)) N := by
  unfold f_X6_hasRow at h
  refine Z_blk k_X6_hasRow 1 (pc' := 1) (lo' := [some (vR q 16 0), some (vI a1), some (vI a2)]) (st' := [vI a1]) (M1 := M) rfl ?_
  refine Z_if k_X6_hasRow rfl 30 rfl (fun hc => ?_) (fun hc => ?_)
  · replace h := of_pos hc h
    refine Z_blk k_X6_hasRow 1 (pc' := 31) (lo' := [some (vR q 16 0), some (vI a1), some (vI a2)]) (st' := [vI 0]) (M1 := M) rfl ?_
    cases h
    exact Z_ret ⟨Or.inr ⟨rfl, Or.inl rfl⟩, _, rfl⟩ rfl
  · replace h := of_neg hc h
    refine Z_blk k_X6_hasRow 1 (pc' := 5) (lo' := [some (vR q 16 0), some (vI a1), some (vI a2)]) (st' := [vI a2]) (M1 := M) rfl ?_
    refine Z_if k_X6_hasRow rfl 30 rfl (fun hc => ?_) (fun hc => ?_)
    · replace h := of_pos hc h
      refine Z_blk k_X6_hasRow 1 (pc' := 31) (lo' := [some (vR q 16 0), some (vI a1), some (vI a2)]) (st' := [vI 0]) (M1 := M) rfl ?_
      cases h
      exact Z_ret ⟨Or.inr ⟨rfl, Or.inl rfl⟩, _, rfl⟩ rfl
    · replace h := of_neg hc h
      refine Z_blk k_X6_hasRow 3 (pc' := 13) (lo' := [some (vR q 16 0), some (vI a1), some (vI a2)]) (st' := [vI (M q 3), vI a2]) (M1 := M) rfl ?_
      refine Z_icmp k_X6_hasRow rfl 30 rfl (fun hc => ?_) (fun hc => ?_)
      · replace h := of_pos hc h
        refine Z_blk k_X6_hasRow 1 (pc' := 31) (lo' := [some (vR q 16 0), some (vI a1), some (vI a2)]) (st' := [vI 0]) (M1 := M) rfl ?_
        cases h
        exact Z_ret ⟨Or.inr ⟨rfl, Or.inl rfl⟩, _, rfl⟩ rfl
      · replace h := of_neg hc h
        refine Z_blk k_X6_hasRow 5 (pc' := 23) (lo' := [some (vR q 16 0), some (vI a1), some (vI a2)]) (st' := [vI (o_sub (M q 3) a2), vI a1]) (M1 := M) rfl ?_
        refine Z_icmp k_X6_hasRow rfl 30 rfl (fun hc => ?_) (fun hc => ?_)
        · replace h := of_pos hc h
          refine Z_blk k_X6_hasRow 1 (pc' := 31) (lo' := [some (vR q 16 0), some (vI a1), some (vI a2)]) (st' := [vI 0]) (M1 := M) rfl ?_
          cases h
          exact Z_ret ⟨Or.inr ⟨rfl, Or.inl rfl⟩, _, rfl⟩ rfl
        · replace h := of_neg hc h
          refine Z_blk k_X6_hasRow 2 (pc' := 31) (lo' := [some (vR q 16 0), some (vI a1), some (vI a2)]) (st' := [vI 1]) (M1 := M) rfl ?_
          cases h
          exact Z_ret ⟨Or.inr ⟨rfl, Or.inr rfl⟩, _, rfl⟩ rfl
def f_X6_cutToWidth (q : Nat) (a1 : Int) (M : AM) : Option (Int × AM) := if M q 2 = 0 then some (o_i2b (o_l2i a1), M) else (if M q 2 = 1 then some (o_i2s (o_l2i a1), M) else (if M q 2 = 2 then some (o_l2i a1, M) else (some (a1, M))))
theorem e_X6_cutToWidth {Y : List (Nat × Nat)} (d : Nat) (q : Nat) (a1 : Int) (M : AM) (x : Int) (N : AM) (h : f_X6_cutToWidth q a1 M = some (x, N)) : Ev Y (d + 0) m_X6_cutToWidth 0 [some (vR q 16 0), some (vL a1), none] [] M (some (vL x)) N := by
  unfold f_X6_cutToWidth at h
  refine Z_blk k_X6_cutToWidth 2 (pc' := 4) (lo' := [some (vR q 16 0), some (vL a1), none]) (st' := [vI (M q 2)]) (M1 := M) rfl ?_
  by_cases hs0 : M q 2 = 0
  · replace h := of_pos hs0 h
    refine Z_tabIn k_X6_cutToWidth rfl 32 (off := 28) (by rw [hs0]; decide) (by rw [hs0]; decide) (by first | (rw [hs0]; done) | (rw [hs0]; rfl)) rfl ?_
    refine Z_blk k_X6_cutToWidth 4 (pc' := 36) (lo' := [some (vR q 16 0), some (vL a1), none]) (st' := [vL (o_i2b (o_l2i a1))]) (M1 := M) rfl ?_
    cases h
    exact Z_ret ⟨rfl, _, rfl⟩ rfl
  · replace h := of_neg hs0 h
    by_cases hs1 : M q 2 = 1
    · replace h := of_pos hs1 h
      refine Z_tabIn k_X6_cutToWidth rfl 37 (off := 33) (by rw [hs1]; decide) (by rw [hs1]; decide) (by first | (rw [hs1]; done) | (rw [hs1]; rfl)) rfl ?_
      refine Z_blk k_X6_cutToWidth 4 (pc' := 41) (lo' := [some (vR q 16 0), some (vL a1), none]) (st' := [vL (o_i2s (o_l2i a1))]) (M1 := M) rfl ?_
      cases h
      exact Z_ret ⟨rfl, _, rfl⟩ rfl
    · replace h := of_neg hs1 h
      by_cases hs2 : M q 2 = 2
      · replace h := of_pos hs2 h
        refine Z_tabIn k_X6_cutToWidth rfl 42 (off := 38) (by rw [hs2]; decide) (by rw [hs2]; decide) (by first | (rw [hs2]; done) | (rw [hs2]; rfl)) rfl ?_
        refine Z_blk k_X6_cutToWidth 3 (pc' := 45) (lo' := [some (vR q 16 0), some (vL a1), none]) (st' := [vL (o_l2i a1)]) (M1 := M) rfl ?_
        cases h
        exact Z_ret ⟨rfl, _, rfl⟩ rfl
      · replace h := of_neg hs2 h
        refine Z_tabOut k_X6_cutToWidth rfl 46 (by omega) rfl ?_
        refine Z_blk k_X6_cutToWidth 1 (pc' := 47) (lo' := [some (vR q 16 0), some (vL a1), none]) (st' := [vL a1]) (M1 := M) rfl ?_
        cases h
        exact Z_ret ⟨rfl, _, rfl⟩ rfl
theorem l_6_32 : zhas 3038 (Jvm.Cond.methodLink "BellPullHouse$Tray" 32 yX6_hasRow) = true := by decide +kernel
theorem l_6_36 : zhas 3039 (Jvm.Cond.methodLink "BellPullHouse$Tray" 36 yX6_cutToWidth) = true := by decide +kernel
def f_X6_put (q : Nat) (a1 : Int) (a2 : Int) (M : AM) : Option (AM) := (f_X6_hasRow q a1 1 M).bind fun x1 => if x1.1 = 0 then some x1.2 else ((f_X6_cutToWidth q a2 x1.2).bind fun x2 => if 0 ≤ a1 ∧ a1 < 60 then (zlet (am_upd x2.2 (q + 1) (Int.toNat a1) x2.1) fun M4 => some M4) else none)
theorem e_X6_put {Y : List (Nat × Nat)} (d : Nat) (q : Nat) (a1 : Int) (a2 : Int) (M : AM) (N : AM) (h : f_X6_put q a1 a2 M = some N) : Ev Y (d + 1) m_X6_put 0 [some (vR q 16 0), some (vI a1), some (vL a2), none] [] M none N := by
  unfold f_X6_put at h
  refine Z_blk k_X6_put 3 (pc' := 3) (lo' := [some (vR q 16 0), some (vI a1), some (vL a2), none]) (st' := [vI 1, vI a1, vR q 16 0]) (M1 := M) rfl ?_
  obtain ⟨x1, hx1, h⟩ := Option.bind_eq_some_iff.mp h
  refine Z_callV8 k_X6_put k_X6_hasRow rfl rfl (l_6_32) (ci := 6) rfl [vI a1, vI 1] [] rfl rfl (Nat.le_of_ble_eq_true rfl) (Nat.le_of_ble_eq_true rfl) (e_X6_hasRow (d + 0) q a1 1 M _ _ hx1) ?_
  refine Z_if k_X6_put rfl 20 rfl (fun hc => ?_) (fun hc => ?_)
  · replace h := of_pos hc h
    cases h
    exact Z_ret ⟨rfl, _, rfl⟩ rfl
  · replace h := of_neg hc h
    refine Z_blk k_X6_put 5 (pc' := 16) (lo' := [some (vR q 16 0), some (vI a1), some (vL a2), none]) (st' := [vL a2, vR q 16 0, vI a1, vR (q + 1) 1 60]) (M1 := x1.2) rfl ?_
    obtain ⟨x2, hx2, h⟩ := Option.bind_eq_some_iff.mp h
    refine Z_callV8 k_X6_put k_X6_cutToWidth rfl rfl (l_6_36) (ci := 6) rfl [vL a2] [vI a1, vR (q + 1) 1 60] rfl rfl (Nat.le_of_ble_eq_true rfl) (Nat.le_of_ble_eq_true rfl) (e_X6_cutToWidth (d + 0) q a2 x1.2 _ _ hx2) ?_
    obtain ⟨hc3, h⟩ := of_grd h
    obtain ⟨M4, eM4, h⟩ := of_zlet h
    refine Z_one k_X6_put rfl (pc' := 20) (lo' := [some (vR q 16 0), some (vI a1), some (vL a2), none]) (st' := []) (M1 := M4) (by rw [eM4]; exact if_pos hc3) ?_
    cases h
    exact Z_ret ⟨rfl, _, rfl⟩ rfl
