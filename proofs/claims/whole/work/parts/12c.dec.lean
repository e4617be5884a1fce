def f_X6_get (q : Nat) (a1 : Int) (M : AM) : Option (Int × AM) := (f_X6_hasRow q a1 1 M).bind fun x1 => if x1.1 = 0 then some ((-1), x1.2) else (if 0 ≤ a1 ∧ a1 < 60 then some (x1.2 (q + 1) (Int.toNat a1), x1.2) else none)
theorem e_X6_get {Y : List (Nat × Nat)} (d : Nat) (q : Nat) (a1 : Int) (M : AM) (x : Int) (N : AM) (h : f_X6_get q a1 M = some (x, N)) : Ev Y (d + 1) m_X6_get 0 [some (vR q 16 0), some (vI a1)] [] M (some (vL x)) N := by
  unfold f_X6_get at h
  refine Z_blk k_X6_get 3 (pc' := 3) (lo' := [some (vR q 16 0), some (vI a1)]) (st' := [vI 1, vI a1, vR q 16 0]) (M1 := M) rfl ?_
  obtain ⟨x1, hx1, h⟩ := Option.bind_eq_some_iff.mp h
  refine Z_callV8 k_X6_get k_X6_hasRow rfl rfl (l_6_32) (ci := 6) rfl [vI a1, vI 1] [] rfl rfl (Nat.le_of_ble_eq_true rfl) (Nat.le_of_ble_eq_true rfl) (e_X6_hasRow (d + 0) q a1 1 M _ _ hx1) ?_
  refine Z_if k_X6_get rfl 18 rfl (fun hc => ?_) (fun hc => ?_)
  · replace h := of_pos hc h
    refine Z_blk k_X6_get 1 (pc' := 21) (lo' := [some (vR q 16 0), some (vI a1)]) (st' := [vL (-1)]) (M1 := x1.2) rfl ?_
    cases h
    exact Z_ret ⟨rfl, _, rfl⟩ rfl
  · replace h := of_neg hc h
    refine Z_blk k_X6_get 3 (pc' := 14) (lo' := [some (vR q 16 0), some (vI a1)]) (st' := [vI a1, vR (q + 1) 1 60]) (M1 := x1.2) rfl ?_
    obtain ⟨hc2, h⟩ := of_grd h
    refine Z_one k_X6_get rfl (pc' := 15) (lo' := [some (vR q 16 0), some (vI a1)]) (st' := [vL (x1.2 (q + 1) (Int.toNat a1))]) (M1 := x1.2) (if_pos hc2) ?_
    refine Z_blk k_X6_get 1 (pc' := 21) (lo' := [some (vR q 16 0), some (vI a1)]) (st' := [vL (x1.2 (q + 1) (Int.toNat a1))]) (M1 := x1.2) rfl ?_
    cases h
    exact Z_ret ⟨rfl, _, rfl⟩ rfl
def f_X7_relax (a1 : Int) (a2 : Int) (a3 : Int) (M : AM) : Option (Int × AM) := if 0 ≤ a1 ∧ a1 < 8 then (if 0 ≤ a2 ∧ a2 < 8 then (if M 64 (Int.toNat a2) ≤ o_add (M 64 (Int.toNat a1)) a3 then (if M 64 (Int.toNat a1) ≤ o_add (M 64 (Int.toNat a2)) a3 then some (0, M) else (zlet (am_upd M 64 (Int.toNat a1) (o_add (M 64 (Int.toNat a2)) a3)) fun M3 => some (1, M3))) else (zlet (am_upd M 64 (Int.toNat a2) (o_add (M 64 (Int.toNat a1)) a3)) fun M4 => some (1, M4))) else none) else none
theorem e_X7_relax {Y : List (Nat × Nat)} (d : Nat) (a1 : Int) (a2 : Int) (a3 : Int) (M : AM) (x : Int) (N : AM) (h : f_X7_relax a1 a2 a3 M = some (x, N)) : Ev Y (d + 0) m_X7_relax 0 [some (vR 63 17 0), some (vI a1), some (vI a2), some (vI a3)] [] M (some (vI x)) N := by
  unfold f_X7_relax at h
  refine Z_blk k_X7_relax 3 (pc' := 5) (lo' := [some (vR 63 17 0), some (vI a1), some (vI a2), some (vI a3)]) (st' := [vI a1, vR 64 0 8]) (M1 := M) rfl ?_
  obtain ⟨hc1, h⟩ := of_grd h
  refine Z_one k_X7_relax rfl (pc' := 6) (lo' := [some (vR 63 17 0), some (vI a1), some (vI a2), some (vI a3)]) (st' := [vI (M 64 (Int.toNat a1))]) (M1 := M) (if_pos hc1) ?_
  refine Z_blk k_X7_relax 5 (pc' := 13) (lo' := [some (vR 63 17 0), some (vI a1), some (vI a2), some (vI a3)]) (st' := [vI a2, vR 64 0 8, vI (o_add (M 64 (Int.toNat a1)) a3)]) (M1 := M) rfl ?_
  obtain ⟨hc2, h⟩ := of_grd h
  refine Z_one k_X7_relax rfl (pc' := 14) (lo' := [some (vR 63 17 0), some (vI a1), some (vI a2), some (vI a3)]) (st' := [vI (M 64 (Int.toNat a2)), vI (o_add (M 64 (Int.toNat a1)) a3)]) (M1 := M) (if_pos hc2) ?_
  refine Z_icmp k_X7_relax rfl 33 rfl (fun hc => ?_) (fun hc => ?_)
  · replace h := of_pos hc h
    refine Z_blk k_X7_relax 3 (pc' := 38) (lo' := [some (vR 63 17 0), some (vI a1), some (vI a2), some (vI a3)]) (st' := [vI a2, vR 64 0 8]) (M1 := M) rfl ?_
    refine Z_one k_X7_relax rfl (pc' := 39) (lo' := [some (vR 63 17 0), some (vI a1), some (vI a2), some (vI a3)]) (st' := [vI (M 64 (Int.toNat a2))]) (M1 := M) (if_pos hc2) ?_
    refine Z_blk k_X7_relax 5 (pc' := 46) (lo' := [some (vR 63 17 0), some (vI a1), some (vI a2), some (vI a3)]) (st' := [vI a1, vR 64 0 8, vI (o_add (M 64 (Int.toNat a2)) a3)]) (M1 := M) rfl ?_
    refine Z_one k_X7_relax rfl (pc' := 47) (lo' := [some (vR 63 17 0), some (vI a1), some (vI a2), some (vI a3)]) (st' := [vI (M 64 (Int.toNat a1)), vI (o_add (M 64 (Int.toNat a2)) a3)]) (M1 := M) (if_pos hc1) ?_
    refine Z_icmp k_X7_relax rfl 66 rfl (fun hc => ?_) (fun hc => ?_)
    · replace h := of_pos hc h
      refine Z_blk k_X7_relax 1 (pc' := 67) (lo' := [some (vR 63 17 0), some (vI a1), some (vI a2), some (vI a3)]) (st' := [vI 0]) (M1 := M) rfl ?_
      cases h
      exact Z_ret ⟨Or.inr ⟨rfl, Or.inl rfl⟩, _, rfl⟩ rfl
    · replace h := of_neg hc h
      refine Z_blk k_X7_relax 6 (pc' := 60) (lo' := [some (vR 63 17 0), some (vI a1), some (vI a2), some (vI a3)]) (st' := [vI a2, vR 64 0 8, vI a1, vR 64 0 8]) (M1 := M) rfl ?_
      refine Z_one k_X7_relax rfl (pc' := 61) (lo' := [some (vR 63 17 0), some (vI a1), some (vI a2), some (vI a3)]) (st' := [vI (M 64 (Int.toNat a2)), vI a1, vR 64 0 8]) (M1 := M) (if_pos hc2) ?_
      refine Z_blk k_X7_relax 2 (pc' := 63) (lo' := [some (vR 63 17 0), some (vI a1), some (vI a2), some (vI a3)]) (st' := [vI (o_add (M 64 (Int.toNat a2)) a3), vI a1, vR 64 0 8]) (M1 := M) rfl ?_
      obtain ⟨M3, eM3, h⟩ := of_zlet h
      refine Z_one k_X7_relax rfl (pc' := 64) (lo' := [some (vR 63 17 0), some (vI a1), some (vI a2), some (vI a3)]) (st' := []) (M1 := M3) (by rw [eM3]; exact if_pos hc1) ?_
      refine Z_blk k_X7_relax 1 (pc' := 65) (lo' := [some (vR 63 17 0), some (vI a1), some (vI a2), some (vI a3)]) (st' := [vI 1]) (M1 := M3) rfl ?_
      cases h
      exact Z_ret ⟨Or.inr ⟨rfl, Or.inr rfl⟩, _, rfl⟩ rfl
  · replace h := of_neg hc h
    refine Z_blk k_X7_relax 6 (pc' := 27) (lo' := [some (vR 63 17 0), some (vI a1), some (vI a2), some (vI a3)]) (st' := [vI a1, vR 64 0 8, vI a2, vR 64 0 8]) (M1 := M) rfl ?_
    refine Z_one k_X7_relax rfl (pc' := 28) (lo' := [some (vR 63 17 0), some (vI a1), some (vI a2), some (vI a3)]) (st' := [vI (M 64 (Int.toNat a1)), vI a2, vR 64 0 8]) (M1 := M) (if_pos hc1) ?_
    refine Z_blk k_X7_relax 2 (pc' := 30) (lo' := [some (vR 63 17 0), some (vI a1), some (vI a2), some (vI a3)]) (st' := [vI (o_add (M 64 (Int.toNat a1)) a3), vI a2, vR 64 0 8]) (M1 := M) rfl ?_
    obtain ⟨M4, eM4, h⟩ := of_zlet h
    refine Z_one k_X7_relax rfl (pc' := 31) (lo' := [some (vR 63 17 0), some (vI a1), some (vI a2), some (vI a3)]) (st' := []) (M1 := M4) (by rw [eM4]; exact if_pos hc2) ?_
    refine Z_blk k_X7_relax 1 (pc' := 32) (lo' := [some (vR 63 17 0), some (vI a1), some (vI a2), some (vI a3)]) (st' := [vI 1]) (M1 := M4) rfl ?_
    cases h
    exact Z_ret ⟨Or.inr ⟨rfl, Or.inr rfl⟩, _, rfl⟩ rfl
theorem l_7_22 : zhas 5027 (Jvm.Cond.methodLink "BellPullHouse$Wiring" 22 yX1_isRoom) = true := by decide +kernel
theorem l_7_28 : zhas 5028 (Jvm.Cond.methodLink "BellPullHouse$Wiring" 28 yJ7_fill_53178) = true := by decide +kernel
theorem l_7_49 : zhas 5029 (Jvm.Cond.methodLink "BellPullHouse$Wiring" 49 yX7_relax) = true := by decide +kernel
def f_X7_carries_103 (k_41 : Int → Int → Int → Int → Int → AM → Option (Int × AM)) (k_61 : Int → Int → Int → Int → Int → Int → AM → Option (Int × AM)) (a3 : Int) (a4 : Int) (a5 : Int) (a6 : Int) (a7 : Int) (a8 : Int) (s0 : Int) (M : AM) : Option (Int × AM) := if 0 ≤ a8 ∧ a8 < 10 then ((f_X7_relax (M 24 (Int.toNat a8)) (M 25 (Int.toNat a8)) s0 M).bind fun x2 => k_61 a3 a4 a5 (o_or a6 x2.1) a7 (o_add a8 1) x2.2) else none
theorem e_X7_carries_103 {Y : List (Nat × Nat)} (d : Nat) (k_41 : Int → Int → Int → Int → Int → AM → Option (Int × AM)) (k_61 : Int → Int → Int → Int → Int → Int → AM → Option (Int × AM)) (hk_41 : ∀ (a3 : Int) (a4 : Int) (a5 : Int) (a6 : Int) (a7 : Int) (M : AM) (x : Int) (N : AM), k_41 a3 a4 a5 a6 a7 M = some (x, N) → Ev Y (d + 1) m_X7_carries 41 [some (vR 63 17 0), some (vR 23 11 0), none, some (vI a3), some (vI a4), some (vI a5), some (vI a6), some (vI a7), none, none] [] M (some (vI x)) N) (hk_61 : ∀ (a3 : Int) (a4 : Int) (a5 : Int) (a6 : Int) (a7 : Int) (a8 : Int) (M : AM) (x : Int) (N : AM), k_61 a3 a4 a5 a6 a7 a8 M = some (x, N) → Ev Y (d + 1) m_X7_carries 61 [some (vR 63 17 0), some (vR 23 11 0), none, some (vI a3), some (vI a4), some (vI a5), some (vI a6), some (vI a7), some (vI a8), none] [] M (some (vI x)) N) (a3 : Int) (a4 : Int) (a5 : Int) (a6 : Int) (a7 : Int) (a8 : Int) (s0 : Int) (M : AM) (x : Int) (N : AM) (h : f_X7_carries_103 k_41 k_61 a3 a4 a5 a6 a7 a8 s0 M = some (x, N)) : Ev Y (d + 1) m_X7_carries 103 [some (vR 63 17 0), some (vR 23 11 0), none, some (vI a3), some (vI a4), some (vI a5), some (vI a6), some (vI a7), some (vI a8), none] [vI s0] M (some (vI x)) N := by
  unfold f_X7_carries_103 at h
  refine Z_blk k_X7_carries 6 (pc' := 114) (lo' := [some (vR 63 17 0), some (vR 23 11 0), none, some (vI a3), some (vI a4), some (vI a5), some (vI a6), some (vI a7), some (vI a8), some (vI s0)]) (st' := [vI a8, vR 24 0 10, vR 63 17 0, vI a6]) (M1 := M) rfl ?_
  obtain ⟨hc1, h⟩ := of_grd h
  refine Z_one k_X7_carries rfl (pc' := 115) (lo' := [some (vR 63 17 0), some (vR 23 11 0), none, some (vI a3), some (vI a4), some (vI a5), some (vI a6), some (vI a7), some (vI a8), some (vI s0)]) (st' := [vI (M 24 (Int.toNat a8)), vR 63 17 0, vI a6]) (M1 := M) (if_pos hc1) ?_
  refine Z_blk k_X7_carries 3 (pc' := 121) (lo' := [some (vR 63 17 0), some (vR 23 11 0), none, some (vI a3), some (vI a4), some (vI a5), some (vI a6), some (vI a7), some (vI a8), some (vI s0)]) (st' := [vI a8, vR 25 0 10, vI (M 24 (Int.toNat a8)), vR 63 17 0, vI a6]) (M1 := M) rfl ?_
  refine Z_one k_X7_carries rfl (pc' := 122) (lo' := [some (vR 63 17 0), some (vR 23 11 0), none, some (vI a3), some (vI a4), some (vI a5), some (vI a6), some (vI a7), some (vI a8), some (vI s0)]) (st' := [vI (M 25 (Int.toNat a8)), vI (M 24 (Int.toNat a8)), vR 63 17 0, vI a6]) (M1 := M) (if_pos hc1) ?_
  refine Z_blk k_X7_carries 1 (pc' := 124) (lo' := [some (vR 63 17 0), some (vR 23 11 0), none, some (vI a3), some (vI a4), some (vI a5), some (vI a6), some (vI a7), some (vI a8), some (vI s0)]) (st' := [vI s0, vI (M 25 (Int.toNat a8)), vI (M 24 (Int.toNat a8)), vR 63 17 0, vI a6]) (M1 := M) rfl ?_
  obtain ⟨x2, hx2, h⟩ := Option.bind_eq_some_iff.mp h
  refine Z_callV8 k_X7_carries k_X7_relax rfl rfl (l_7_49) (ci := 7) rfl [vI (M 24 (Int.toNat a8)), vI (M 25 (Int.toNat a8)), vI s0] [vI a6] rfl rfl (Nat.le_of_ble_eq_true rfl) (Nat.le_of_ble_eq_true rfl) (e_X7_relax (d + 0) (M 24 (Int.toNat a8)) (M 25 (Int.toNat a8)) s0 M _ _ hx2) ?_
  refine Z_blk k_X7_carries 4 (pc' := 61) (lo' := [some (vR 63 17 0), some (vR 23 11 0), none, some (vI a3), some (vI a4), some (vI a5), some (vI (o_or a6 x2.1)), some (vI a7), some (vI (o_add a8 1)), some (vI s0)]) (st' := []) (M1 := x2.2) rfl ?_
  refine Z_mask [true, true, false, true, true, true, true, true, true, false] (lo0 := [some (vR 63 17 0), some (vR 23 11 0), none, some (vI a3), some (vI a4), some (vI a5), some (vI (o_or a6 x2.1)), some (vI a7), some (vI (o_add a8 1)), none]) rfl ?_
  exact hk_61 a3 a4 a5 (o_or a6 x2.1) a7 (o_add a8 1) x2.2 _ _ h
def f_X7_carries_61 (k_41 : Int → Int → Int → Int → Int → AM → Option (Int × AM)) : Nat → Int → Int → Int → Int → Int → Int → AM → Option (Int × AM)
  | 0, _, _, _, _, _, _, _ => none
  | n + 1, a3, a4, a5, a6, a7, a8, M => if M 23 3 ≤ a8 then k_41 a3 a4 a5 a6 (o_add a7 1) M else (if o_and (o_shr a4 a8) 1 = 0 then f_X7_carries_61 k_41 n a3 a4 a5 a6 a7 (o_add a8 1) M else (if o_and (o_shr a5 a8) 1 = 0 then (if 0 ≤ a8 ∧ a8 < 10 then f_X7_carries_103 k_41 (f_X7_carries_61 k_41 n) a3 a4 a5 a6 a7 a8 (o_add 1 (M 26 (Int.toNat a8))) M else none) else f_X7_carries_103 k_41 (f_X7_carries_61 k_41 n) a3 a4 a5 a6 a7 a8 1 M))
theorem e_X7_carries_61 {Y : List (Nat × Nat)} (d : Nat) (k_41 : Int → Int → Int → Int → Int → AM → Option (Int × AM)) (hk_41 : ∀ (a3 : Int) (a4 : Int) (a5 : Int) (a6 : Int) (a7 : Int) (M : AM) (x : Int) (N : AM), k_41 a3 a4 a5 a6 a7 M = some (x, N) → Ev Y (d + 1) m_X7_carries 41 [some (vR 63 17 0), some (vR 23 11 0), none, some (vI a3), some (vI a4), some (vI a5), some (vI a6), some (vI a7), none, none] [] M (some (vI x)) N) : ∀ (n : Nat) (a3 : Int) (a4 : Int) (a5 : Int) (a6 : Int) (a7 : Int) (a8 : Int) (M : AM) (x : Int) (N : AM), f_X7_carries_61 k_41 n a3 a4 a5 a6 a7 a8 M = some (x, N) → Ev Y (d + 1) m_X7_carries 61 [some (vR 63 17 0), some (vR 23 11 0), none, some (vI a3), some (vI a4), some (vI a5), some (vI a6), some (vI a7), some (vI a8), none] [] M (some (vI x)) N := by
  intro n
  induction n with
  | zero => intro a3 a4 a5 a6 a7 a8 M x N h; cases h
  | succ n ih =>
    intro a3 a4 a5 a6 a7 a8 M x N h
    simp only [f_X7_carries_61] at h
    refine Z_blk k_X7_carries 3 (pc' := 67) (lo' := [some (vR 63 17 0), some (vR 23 11 0), none, some (vI a3), some (vI a4), some (vI a5), some (vI a6), some (vI a7), some (vI a8), none]) (st' := [vI (M 23 3), vI a8]) (M1 := M) rfl ?_
    refine Z_icmp k_X7_carries rfl 136 rfl (fun hc => ?_) (fun hc => ?_)
    · replace h := of_pos hc h
      refine Z_blk k_X7_carries 2 (pc' := 41) (lo' := [some (vR 63 17 0), some (vR 23 11 0), none, some (vI a3), some (vI a4), some (vI a5), some (vI a6), some (vI (o_add a7 1)), some (vI a8), none]) (st' := []) (M1 := M) rfl ?_
      refine Z_mask [true, true, false, true, true, true, true, true, false, false] (lo0 := [some (vR 63 17 0), some (vR 23 11 0), none, some (vI a3), some (vI a4), some (vI a5), some (vI a6), some (vI (o_add a7 1)), none, none]) rfl ?_
      exact hk_41 a3 a4 a5 a6 (o_add a7 1) M _ _ h
    · replace h := of_neg hc h
      refine Z_blk k_X7_carries 5 (pc' := 77) (lo' := [some (vR 63 17 0), some (vR 23 11 0), none, some (vI a3), some (vI a4), some (vI a5), some (vI a6), some (vI a7), some (vI a8), none]) (st' := [vI (o_and (o_shr a4 a8) 1)]) (M1 := M) rfl ?_
      refine Z_if k_X7_carries rfl 130 rfl (fun hc => ?_) (fun hc => ?_)
      · replace h := of_pos hc h
        refine Z_blk k_X7_carries 2 (pc' := 61) (lo' := [some (vR 63 17 0), some (vR 23 11 0), none, some (vI a3), some (vI a4), some (vI a5), some (vI a6), some (vI a7), some (vI (o_add a8 1)), none]) (st' := []) (M1 := M) rfl ?_
        refine Z_mask [true, true, false, true, true, true, true, true, true, false] (lo0 := [some (vR 63 17 0), some (vR 23 11 0), none, some (vI a3), some (vI a4), some (vI a5), some (vI a6), some (vI a7), some (vI (o_add a8 1)), none]) rfl ?_
        exact ih a3 a4 a5 a6 a7 (o_add a8 1) M _ _ h
      · replace h := of_neg hc h
        refine Z_blk k_X7_carries 5 (pc' := 87) (lo' := [some (vR 63 17 0), some (vR 23 11 0), none, some (vI a3), some (vI a4), some (vI a5), some (vI a6), some (vI a7), some (vI a8), none]) (st' := [vI (o_and (o_shr a5 a8) 1)]) (M1 := M) rfl ?_
        refine Z_if k_X7_carries rfl 94 rfl (fun hc => ?_) (fun hc => ?_)
        · replace h := of_pos hc h
          refine Z_blk k_X7_carries 4 (pc' := 101) (lo' := [some (vR 63 17 0), some (vR 23 11 0), none, some (vI a3), some (vI a4), some (vI a5), some (vI a6), some (vI a7), some (vI a8), none]) (st' := [vI a8, vR 26 0 10, vI 1]) (M1 := M) rfl ?_
          obtain ⟨hc1, h⟩ := of_grd h
          refine Z_one k_X7_carries rfl (pc' := 102) (lo' := [some (vR 63 17 0), some (vR 23 11 0), none, some (vI a3), some (vI a4), some (vI a5), some (vI a6), some (vI a7), some (vI a8), none]) (st' := [vI (M 26 (Int.toNat a8)), vI 1]) (M1 := M) (if_pos hc1) ?_
          refine Z_blk k_X7_carries 1 (pc' := 103) (lo' := [some (vR 63 17 0), some (vR 23 11 0), none, some (vI a3), some (vI a4), some (vI a5), some (vI a6), some (vI a7), some (vI a8), none]) (st' := [vI (o_add 1 (M 26 (Int.toNat a8)))]) (M1 := M) rfl ?_
          refine Z_mask [true, true, false, true, true, true, true, true, true, false] (lo0 := [some (vR 63 17 0), some (vR 23 11 0), none, some (vI a3), some (vI a4), some (vI a5), some (vI a6), some (vI a7), some (vI a8), none]) rfl ?_
          exact e_X7_carries_103 d k_41 (f_X7_carries_61 k_41 n) hk_41 ih a3 a4 a5 a6 a7 a8 (o_add 1 (M 26 (Int.toNat a8))) M _ _ h
        · replace h := of_neg hc h
          refine Z_blk k_X7_carries 2 (pc' := 103) (lo' := [some (vR 63 17 0), some (vR 23 11 0), none, some (vI a3), some (vI a4), some (vI a5), some (vI a6), some (vI a7), some (vI a8), none]) (st' := [vI 1]) (M1 := M) rfl ?_
          refine Z_mask [true, true, false, true, true, true, true, true, true, false] (lo0 := [some (vR 63 17 0), some (vR 23 11 0), none, some (vI a3), some (vI a4), some (vI a5), some (vI a6), some (vI a7), some (vI a8), none]) rfl ?_
          exact e_X7_carries_103 d k_41 (f_X7_carries_61 k_41 n) hk_41 ih a3 a4 a5 a6 a7 a8 1 M _ _ h
def f_X7_carries_142 (a3 : Int) (M : AM) : Option (Int × AM) := if 0 ≤ a3 ∧ a3 < 8 then (if M 23 0 < M 64 (Int.toNat a3) then some (0, M) else some (1, M)) else none
theorem e_X7_carries_142 {Y : List (Nat × Nat)} (d : Nat) (a3 : Int) (M : AM) (x : Int) (N : AM) (h : f_X7_carries_142 a3 M = some (x, N)) : Ev Y (d + 1) m_X7_carries 142 [some (vR 63 17 0), some (vR 23 11 0), none, some (vI a3), none, none, none, none, none, none] [] M (some (vI x)) N := by
  unfold f_X7_carries_142 at h
  refine Z_blk k_X7_carries 3 (pc' := 147) (lo' := [some (vR 63 17 0), some (vR 23 11 0), none, some (vI a3), none, none, none, none, none, none]) (st' := [vI a3, vR 64 0 8]) (M1 := M) rfl ?_
  obtain ⟨hc1, h⟩ := of_grd h
  refine Z_one k_X7_carries rfl (pc' := 148) (lo' := [some (vR 63 17 0), some (vR 23 11 0), none, some (vI a3), none, none, none, none, none, none]) (st' := [vI (M 64 (Int.toNat a3))]) (M1 := M) (if_pos hc1) ?_
  refine Z_blk k_X7_carries 2 (pc' := 152) (lo' := [some (vR 63 17 0), some (vR 23 11 0), none, some (vI a3), none, none, none, none, none, none]) (st' := [vI (M 23 0), vI (M 64 (Int.toNat a3))]) (M1 := M) rfl ?_
  refine Z_icmp k_X7_carries rfl 159 rfl (fun hc => ?_) (fun hc => ?_)
  · replace h := of_pos hc h
    refine Z_blk k_X7_carries 1 (pc' := 160) (lo' := [some (vR 63 17 0), some (vR 23 11 0), none, some (vI a3), none, none, none, none, none, none]) (st' := [vI 0]) (M1 := M) rfl ?_
    cases h
    exact Z_ret ⟨Or.inr ⟨rfl, Or.inl rfl⟩, _, rfl⟩ rfl
  · replace h := of_neg hc h
    refine Z_blk k_X7_carries 2 (pc' := 160) (lo' := [some (vR 63 17 0), some (vR 23 11 0), none, some (vI a3), none, none, none, none, none, none]) (st' := [vI 1]) (M1 := M) rfl ?_
    cases h
    exact Z_ret ⟨Or.inr ⟨rfl, Or.inr rfl⟩, _, rfl⟩ rfl
def f_X7_carries_41 : Nat → Int → Int → Int → Int → Int → AM → Option (Int × AM)
  | 0, _, _, _, _, _, _ => none
  | n + 1, a3, a4, a5, a6, a7, M => if M 23 2 ≤ a7 then f_X7_carries_142 a3 M else (if a6 = 0 then f_X7_carries_142 a3 M else f_X7_carries_61 (f_X7_carries_41 n) zB a3 a4 a5 0 a7 0 M)
theorem e_X7_carries_41 {Y : List (Nat × Nat)} (d : Nat) : ∀ (n : Nat) (a3 : Int) (a4 : Int) (a5 : Int) (a6 : Int) (a7 : Int) (M : AM) (x : Int) (N : AM), f_X7_carries_41 n a3 a4 a5 a6 a7 M = some (x, N) → Ev Y (d + 1) m_X7_carries 41 [some (vR 63 17 0), some (vR 23 11 0), none, some (vI a3), some (vI a4), some (vI a5), some (vI a6), some (vI a7), none, none] [] M (some (vI x)) N := by
  intro n
  induction n with
  | zero => intro a3 a4 a5 a6 a7 M x N h; cases h
  | succ n ih =>
    intro a3 a4 a5 a6 a7 M x N h
    simp only [f_X7_carries_41] at h
    refine Z_blk k_X7_carries 3 (pc' := 47) (lo' := [some (vR 63 17 0), some (vR 23 11 0), none, some (vI a3), some (vI a4), some (vI a5), some (vI a6), some (vI a7), none, none]) (st' := [vI (M 23 2), vI a7]) (M1 := M) rfl ?_
    refine Z_icmp k_X7_carries rfl 142 rfl (fun hc => ?_) (fun hc => ?_)
    · replace h := of_pos hc h
      refine Z_mask [true, true, false, true, false, false, false, false, false, false] (lo0 := [some (vR 63 17 0), some (vR 23 11 0), none, some (vI a3), none, none, none, none, none, none]) rfl ?_
      exact e_X7_carries_142 d a3 M _ _ h
    · replace h := of_neg hc h
      refine Z_blk k_X7_carries 1 (pc' := 52) (lo' := [some (vR 63 17 0), some (vR 23 11 0), none, some (vI a3), some (vI a4), some (vI a5), some (vI a6), some (vI a7), none, none]) (st' := [vI a6]) (M1 := M) rfl ?_
      refine Z_if k_X7_carries rfl 142 rfl (fun hc => ?_) (fun hc => ?_)
      · replace h := of_pos hc h
        refine Z_mask [true, true, false, true, false, false, false, false, false, false] (lo0 := [some (vR 63 17 0), some (vR 23 11 0), none, some (vI a3), none, none, none, none, none, none]) rfl ?_
        exact e_X7_carries_142 d a3 M _ _ h
      · replace h := of_neg hc h
        refine Z_blk k_X7_carries 4 (pc' := 61) (lo' := [some (vR 63 17 0), some (vR 23 11 0), none, some (vI a3), some (vI a4), some (vI a5), some (vI 0), some (vI a7), some (vI 0), none]) (st' := []) (M1 := M) rfl ?_
        refine Z_mask [true, true, false, true, true, true, true, true, true, false] (lo0 := [some (vR 63 17 0), some (vR 23 11 0), none, some (vI a3), some (vI a4), some (vI a5), some (vI 0), some (vI a7), some (vI 0), none]) rfl ?_
        exact e_X7_carries_61 d (f_X7_carries_41 n) ih zB a3 a4 a5 0 a7 0 M _ _ h
def f_X7_carries (a2 : Int) (a3 : Int) (a4 : Int) (a5 : Int) (M : AM) : Option (Int × AM) := (f_X1_isRoom 23 a2 M).bind fun x1 => if x1.1 = 0 then some (0, x1.2) else ((f_X1_isRoom 23 a3 x1.2).bind fun x2 => if ¬ x2.1 = 0 then ((f_J7_fill_53178 64 8 1000 x2.2).bind fun x3 => if 0 ≤ a2 ∧ a2 < 8 then (zlet (am_upd x3 64 (Int.toNat a2) 0) fun M5 => f_X7_carries_41 zB a3 a4 a5 1 1 M5) else none) else some (0, x2.2))
theorem e_X7_carries {Y : List (Nat × Nat)} (d : Nat) (a2 : Int) (a3 : Int) (a4 : Int) (a5 : Int) (M : AM) (x : Int) (N : AM) (h : f_X7_carries a2 a3 a4 a5 M = some (x, N)) : Ev Y (d + 1) m_X7_carries 0 [some (vR 63 17 0), some (vR 23 11 0), some (vI a2), some (vI a3), some (vI a4), some (vI a5), none, none, none, none] [] M (some (vI x)) N := by
  unfold f_X7_carries at h
  refine Z_blk k_X7_carries 2 (pc' := 2) (lo' := [some (vR 63 17 0), some (vR 23 11 0), some (vI a2), some (vI a3), some (vI a4), some (vI a5), none, none, none, none]) (st' := [vI a2, vR 23 11 0]) (M1 := M) rfl ?_
  obtain ⟨x1, hx1, h⟩ := Option.bind_eq_some_iff.mp h
  refine Z_callV8 k_X7_carries k_X1_isRoom rfl rfl (l_7_22) (ci := 1) rfl [vI a2] [] rfl rfl (Nat.le_of_ble_eq_true rfl) (Nat.le_of_ble_eq_true rfl) (e_X1_isRoom (d + 0) 23 a2 M _ _ hx1) ?_
  refine Z_if k_X7_carries rfl 16 rfl (fun hc => ?_) (fun hc => ?_)
  · replace h := of_pos hc h
    refine Z_blk k_X7_carries 1 (pc' := 17) (lo' := [some (vR 63 17 0), some (vR 23 11 0), some (vI a2), some (vI a3), some (vI a4), some (vI a5), none, none, none, none]) (st' := [vI 0]) (M1 := x1.2) rfl ?_
    cases h
    exact Z_ret ⟨Or.inr ⟨rfl, Or.inl rfl⟩, _, rfl⟩ rfl
  · replace h := of_neg hc h
    refine Z_blk k_X7_carries 2 (pc' := 10) (lo' := [some (vR 63 17 0), some (vR 23 11 0), some (vI a2), some (vI a3), some (vI a4), some (vI a5), none, none, none, none]) (st' := [vI a3, vR 23 11 0]) (M1 := x1.2) rfl ?_
    obtain ⟨x2, hx2, h⟩ := Option.bind_eq_some_iff.mp h
    refine Z_callV8 k_X7_carries k_X1_isRoom rfl rfl (l_7_22) (ci := 1) rfl [vI a3] [] rfl rfl (Nat.le_of_ble_eq_true rfl) (Nat.le_of_ble_eq_true rfl) (e_X1_isRoom (d + 0) 23 a3 x1.2 _ _ hx2) ?_
    refine Z_if k_X7_carries rfl 18 rfl (fun hc => ?_) (fun hc => ?_)
    · replace h := of_pos hc h
      refine Z_blk k_X7_carries 3 (pc' := 25) (lo' := [some (vR 63 17 0), some (vR 23 11 0), some (vI a2), some (vI a3), some (vI a4), some (vI a5), none, none, none, none]) (st' := [vI 1000, vR 64 0 8]) (M1 := x2.2) rfl ?_
      obtain ⟨x3, hx3, h⟩ := Option.bind_eq_some_iff.mp h
      refine Z_callS8 k_X7_carries k_J7_fill_53178 rfl rfl (l_7_28) [vR 64 0 8, vI 1000] [] rfl rfl (Nat.le_of_ble_eq_true rfl) (Nat.le_of_ble_eq_true rfl) (e_J7_fill_53178 (d + 0) 64 8 1000 x2.2 _ hx3) ?_
      refine Z_blk k_X7_carries 4 (pc' := 34) (lo' := [some (vR 63 17 0), some (vR 23 11 0), some (vI a2), some (vI a3), some (vI a4), some (vI a5), none, none, none, none]) (st' := [vI 0, vI a2, vR 64 0 8]) (M1 := x3) rfl ?_
      obtain ⟨hc4, h⟩ := of_grd h
      obtain ⟨M5, eM5, h⟩ := of_zlet h
      refine Z_one k_X7_carries rfl (pc' := 35) (lo' := [some (vR 63 17 0), some (vR 23 11 0), some (vI a2), some (vI a3), some (vI a4), some (vI a5), none, none, none, none]) (st' := []) (M1 := M5) (by rw [eM5]; exact if_pos hc4) ?_
      refine Z_blk k_X7_carries 4 (pc' := 41) (lo' := [some (vR 63 17 0), some (vR 23 11 0), some (vI a2), some (vI a3), some (vI a4), some (vI a5), some (vI 1), some (vI 1), none, none]) (st' := []) (M1 := M5) rfl ?_
      refine Z_mask [true, true, false, true, true, true, true, true, false, false] (lo0 := [some (vR 63 17 0), some (vR 23 11 0), none, some (vI a3), some (vI a4), some (vI a5), some (vI 1), some (vI 1), none, none]) rfl ?_
      exact e_X7_carries_41 d zB a3 a4 a5 1 1 M5 _ _ h
    · replace h := of_neg hc h
      refine Z_blk k_X7_carries 1 (pc' := 17) (lo' := [some (vR 63 17 0), some (vR 23 11 0), some (vI a2), some (vI a3), some (vI a4), some (vI a5), none, none, none, none]) (st' := [vI 0]) (M1 := x2.2) rfl ?_
      cases h
      exact Z_ret ⟨Or.inr ⟨rfl, Or.inl rfl⟩, _, rfl⟩ rfl
theorem l_7_65 : zhas 5023 (Jvm.Cond.methodLink "BellPullHouse$Wiring" 65 yX7_carries) = true := by decide +kernel
def f_X7_allRung_3 : Nat → Int → Int → Int → Int → AM → Option (Int × AM)
  | 0, _, _, _, _, _ => none
  | n + 1, a2, a3, a4, a5, M => if M 23 4 ≤ a5 then some (1, M) else (if o_and (o_shr a2 a5) 1 = 0 then f_X7_allRung_3 n a2 a3 a4 (o_add a5 1) M else (if 0 ≤ a5 ∧ a5 < 6 then ((f_X7_carries (M 27 (Int.toNat a5)) (M 28 (Int.toNat a5)) a3 a4 M).bind fun x2 => if ¬ x2.1 = 0 then f_X7_allRung_3 n a2 a3 a4 (o_add a5 1) x2.2 else some (0, x2.2)) else none))
theorem e_X7_allRung_3 {Y : List (Nat × Nat)} (d : Nat) : ∀ (n : Nat) (a2 : Int) (a3 : Int) (a4 : Int) (a5 : Int) (M : AM) (x : Int) (N : AM), f_X7_allRung_3 n a2 a3 a4 a5 M = some (x, N) → Ev Y (d + 2) m_X7_allRung 3 [some (vR 63 17 0), some (vR 23 11 0), some (vI a2), some (vI a3), some (vI a4), some (vI a5)] [] M (some (vI x)) N := by
  intro n
  induction n with
  | zero => intro a2 a3 a4 a5 M x N h; cases h
  | succ n ih =>
    intro a2 a3 a4 a5 M x N h
    simp only [f_X7_allRung_3] at h
    refine Z_blk k_X7_allRung 3 (pc' := 9) (lo' := [some (vR 63 17 0), some (vR 23 11 0), some (vI a2), some (vI a3), some (vI a4), some (vI a5)]) (st' := [vI (M 23 4), vI a5]) (M1 := M) rfl ?_
    refine Z_icmp k_X7_allRung rfl 54 rfl (fun hc => ?_) (fun hc => ?_)
    · replace h := of_pos hc h
      refine Z_blk k_X7_allRung 1 (pc' := 55) (lo' := [some (vR 63 17 0), some (vR 23 11 0), some (vI a2), some (vI a3), some (vI a4), some (vI a5)]) (st' := [vI 1]) (M1 := M) rfl ?_
      cases h
      exact Z_ret ⟨Or.inr ⟨rfl, Or.inr rfl⟩, _, rfl⟩ rfl
    · replace h := of_neg hc h
      refine Z_blk k_X7_allRung 5 (pc' := 18) (lo' := [some (vR 63 17 0), some (vR 23 11 0), some (vI a2), some (vI a3), some (vI a4), some (vI a5)]) (st' := [vI (o_and (o_shr a2 a5) 1)]) (M1 := M) rfl ?_
      refine Z_if k_X7_allRung rfl 48 rfl (fun hc => ?_) (fun hc => ?_)
      · replace h := of_pos hc h
        refine Z_blk k_X7_allRung 2 (pc' := 3) (lo' := [some (vR 63 17 0), some (vR 23 11 0), some (vI a2), some (vI a3), some (vI a4), some (vI (o_add a5 1))]) (st' := []) (M1 := M) rfl ?_
        refine Z_mask [true, true, true, true, true, true] (lo0 := [some (vR 63 17 0), some (vR 23 11 0), some (vI a2), some (vI a3), some (vI a4), some (vI (o_add a5 1))]) rfl ?_
        exact ih a2 a3 a4 (o_add a5 1) M _ _ h
      · replace h := of_neg hc h
        refine Z_blk k_X7_allRung 5 (pc' := 29) (lo' := [some (vR 63 17 0), some (vR 23 11 0), some (vI a2), some (vI a3), some (vI a4), some (vI a5)]) (st' := [vI a5, vR 27 0 6, vR 23 11 0, vR 63 17 0]) (M1 := M) rfl ?_
        obtain ⟨hc1, h⟩ := of_grd h
        refine Z_one k_X7_allRung rfl (pc' := 30) (lo' := [some (vR 63 17 0), some (vR 23 11 0), some (vI a2), some (vI a3), some (vI a4), some (vI a5)]) (st' := [vI (M 27 (Int.toNat a5)), vR 23 11 0, vR 63 17 0]) (M1 := M) (if_pos hc1) ?_
        refine Z_blk k_X7_allRung 3 (pc' := 36) (lo' := [some (vR 63 17 0), some (vR 23 11 0), some (vI a2), some (vI a3), some (vI a4), some (vI a5)]) (st' := [vI a5, vR 28 0 6, vI (M 27 (Int.toNat a5)), vR 23 11 0, vR 63 17 0]) (M1 := M) rfl ?_
        refine Z_one k_X7_allRung rfl (pc' := 37) (lo' := [some (vR 63 17 0), some (vR 23 11 0), some (vI a2), some (vI a3), some (vI a4), some (vI a5)]) (st' := [vI (M 28 (Int.toNat a5)), vI (M 27 (Int.toNat a5)), vR 23 11 0, vR 63 17 0]) (M1 := M) (if_pos hc1) ?_
        refine Z_blk k_X7_allRung 2 (pc' := 40) (lo' := [some (vR 63 17 0), some (vR 23 11 0), some (vI a2), some (vI a3), some (vI a4), some (vI a5)]) (st' := [vI a4, vI a3, vI (M 28 (Int.toNat a5)), vI (M 27 (Int.toNat a5)), vR 23 11 0, vR 63 17 0]) (M1 := M) rfl ?_
        obtain ⟨x2, hx2, h⟩ := Option.bind_eq_some_iff.mp h
        refine Z_callV8 k_X7_allRung k_X7_carries rfl rfl (l_7_65) (ci := 7) rfl [vR 23 11 0, vI (M 27 (Int.toNat a5)), vI (M 28 (Int.toNat a5)), vI a3, vI a4] [] rfl rfl (Nat.le_of_ble_eq_true rfl) (Nat.le_of_ble_eq_true rfl) (e_X7_carries (d + 0) (M 27 (Int.toNat a5)) (M 28 (Int.toNat a5)) a3 a4 M _ _ hx2) ?_
        refine Z_if k_X7_allRung rfl 48 rfl (fun hc => ?_) (fun hc => ?_)
        · replace h := of_pos hc h
          refine Z_blk k_X7_allRung 2 (pc' := 3) (lo' := [some (vR 63 17 0), some (vR 23 11 0), some (vI a2), some (vI a3), some (vI a4), some (vI (o_add a5 1))]) (st' := []) (M1 := x2.2) rfl ?_
          refine Z_mask [true, true, true, true, true, true] (lo0 := [some (vR 63 17 0), some (vR 23 11 0), some (vI a2), some (vI a3), some (vI a4), some (vI (o_add a5 1))]) rfl ?_
          exact ih a2 a3 a4 (o_add a5 1) x2.2 _ _ h
        · replace h := of_neg hc h
          refine Z_blk k_X7_allRung 1 (pc' := 47) (lo' := [some (vR 63 17 0), some (vR 23 11 0), some (vI a2), some (vI a3), some (vI a4), some (vI a5)]) (st' := [vI 0]) (M1 := x2.2) rfl ?_
          cases h
          exact Z_ret ⟨Or.inr ⟨rfl, Or.inl rfl⟩, _, rfl⟩ rfl
def f_X7_allRung (a2 : Int) (a3 : Int) (a4 : Int) (M : AM) : Option (Int × AM) := f_X7_allRung_3 zB a2 a3 a4 0 M
theorem e_X7_allRung {Y : List (Nat × Nat)} (d : Nat) (a2 : Int) (a3 : Int) (a4 : Int) (M : AM) (x : Int) (N : AM) (h : f_X7_allRung a2 a3 a4 M = some (x, N)) : Ev Y (d + 2) m_X7_allRung 0 [some (vR 63 17 0), some (vR 23 11 0), some (vI a2), some (vI a3), some (vI a4), none] [] M (some (vI x)) N := by
  unfold f_X7_allRung at h
  refine Z_blk k_X7_allRung 2 (pc' := 3) (lo' := [some (vR 63 17 0), some (vR 23 11 0), some (vI a2), some (vI a3), some (vI a4), some (vI 0)]) (st' := []) (M1 := M) rfl ?_
  refine Z_mask [true, true, true, true, true, true] (lo0 := [some (vR 63 17 0), some (vR 23 11 0), some (vI a2), some (vI a3), some (vI a4), some (vI 0)]) rfl ?_
  exact e_X7_allRung_3 d zB a2 a3 a4 0 M _ _ h
def f_X7_countRung_6 : Nat → Int → Int → Int → Int → AM → Option (Int × AM)
  | 0, _, _, _, _, _ => none
  | n + 1, a2, a3, a4, a5, M => if M 23 4 ≤ a5 then some (a4, M) else (if 0 ≤ a5 ∧ a5 < 6 then ((f_X7_carries (M 27 (Int.toNat a5)) (M 28 (Int.toNat a5)) a2 a3 M).bind fun x2 => if x2.1 = 0 then f_X7_countRung_6 n a2 a3 a4 (o_add a5 1) x2.2 else f_X7_countRung_6 n a2 a3 (o_add a4 1) (o_add a5 1) x2.2) else none)
theorem e_X7_countRung_6 {Y : List (Nat × Nat)} (d : Nat) : ∀ (n : Nat) (a2 : Int) (a3 : Int) (a4 : Int) (a5 : Int) (M : AM) (x : Int) (N : AM), f_X7_countRung_6 n a2 a3 a4 a5 M = some (x, N) → Ev Y (d + 2) m_X7_countRung 6 [some (vR 63 17 0), some (vR 23 11 0), some (vI a2), some (vI a3), some (vI a4), some (vI a5)] [] M (some (vI x)) N := by
  intro n
  induction n with
  | zero => intro a2 a3 a4 a5 M x N h; cases h
  | succ n ih =>
    intro a2 a3 a4 a5 M x N h
    simp only [f_X7_countRung_6] at h
    refine Z_blk k_X7_countRung 3 (pc' := 12) (lo' := [some (vR 63 17 0), some (vR 23 11 0), some (vI a2), some (vI a3), some (vI a4), some (vI a5)]) (st' := [vI (M 23 4), vI a5]) (M1 := M) rfl ?_
    refine Z_icmp k_X7_countRung rfl 48 rfl (fun hc => ?_) (fun hc => ?_)
    · replace h := of_pos hc h
      refine Z_blk k_X7_countRung 1 (pc' := 50) (lo' := [some (vR 63 17 0), some (vR 23 11 0), some (vI a2), some (vI a3), some (vI a4), some (vI a5)]) (st' := [vI a4]) (M1 := M) rfl ?_
      cases h
      exact Z_ret ⟨Or.inl rfl, _, rfl⟩ rfl
    · replace h := of_neg hc h
      refine Z_blk k_X7_countRung 5 (pc' := 23) (lo' := [some (vR 63 17 0), some (vR 23 11 0), some (vI a2), some (vI a3), some (vI a4), some (vI a5)]) (st' := [vI a5, vR 27 0 6, vR 23 11 0, vR 63 17 0]) (M1 := M) rfl ?_
      obtain ⟨hc1, h⟩ := of_grd h
      refine Z_one k_X7_countRung rfl (pc' := 24) (lo' := [some (vR 63 17 0), some (vR 23 11 0), some (vI a2), some (vI a3), some (vI a4), some (vI a5)]) (st' := [vI (M 27 (Int.toNat a5)), vR 23 11 0, vR 63 17 0]) (M1 := M) (if_pos hc1) ?_
      refine Z_blk k_X7_countRung 3 (pc' := 30) (lo' := [some (vR 63 17 0), some (vR 23 11 0), some (vI a2), some (vI a3), some (vI a4), some (vI a5)]) (st' := [vI a5, vR 28 0 6, vI (M 27 (Int.toNat a5)), vR 23 11 0, vR 63 17 0]) (M1 := M) rfl ?_
      refine Z_one k_X7_countRung rfl (pc' := 31) (lo' := [some (vR 63 17 0), some (vR 23 11 0), some (vI a2), some (vI a3), some (vI a4), some (vI a5)]) (st' := [vI (M 28 (Int.toNat a5)), vI (M 27 (Int.toNat a5)), vR 23 11 0, vR 63 17 0]) (M1 := M) (if_pos hc1) ?_
      refine Z_blk k_X7_countRung 2 (pc' := 33) (lo' := [some (vR 63 17 0), some (vR 23 11 0), some (vI a2), some (vI a3), some (vI a4), some (vI a5)]) (st' := [vI a3, vI a2, vI (M 28 (Int.toNat a5)), vI (M 27 (Int.toNat a5)), vR 23 11 0, vR 63 17 0]) (M1 := M) rfl ?_
      obtain ⟨x2, hx2, h⟩ := Option.bind_eq_some_iff.mp h
      refine Z_callV8 k_X7_countRung k_X7_carries rfl rfl (l_7_65) (ci := 7) rfl [vR 23 11 0, vI (M 27 (Int.toNat a5)), vI (M 28 (Int.toNat a5)), vI a2, vI a3] [] rfl rfl (Nat.le_of_ble_eq_true rfl) (Nat.le_of_ble_eq_true rfl) (e_X7_carries (d + 0) (M 27 (Int.toNat a5)) (M 28 (Int.toNat a5)) a2 a3 M _ _ hx2) ?_
      refine Z_if k_X7_countRung rfl 42 rfl (fun hc => ?_) (fun hc => ?_)
      · replace h := of_pos hc h
        refine Z_blk k_X7_countRung 2 (pc' := 6) (lo' := [some (vR 63 17 0), some (vR 23 11 0), some (vI a2), some (vI a3), some (vI a4), some (vI (o_add a5 1))]) (st' := []) (M1 := x2.2) rfl ?_
        refine Z_mask [true, true, true, true, true, true] (lo0 := [some (vR 63 17 0), some (vR 23 11 0), some (vI a2), some (vI a3), some (vI a4), some (vI (o_add a5 1))]) rfl ?_
        exact ih a2 a3 a4 (o_add a5 1) x2.2 _ _ h
      · replace h := of_neg hc h
        refine Z_blk k_X7_countRung 3 (pc' := 6) (lo' := [some (vR 63 17 0), some (vR 23 11 0), some (vI a2), some (vI a3), some (vI (o_add a4 1)), some (vI (o_add a5 1))]) (st' := []) (M1 := x2.2) rfl ?_
        refine Z_mask [true, true, true, true, true, true] (lo0 := [some (vR 63 17 0), some (vR 23 11 0), some (vI a2), some (vI a3), some (vI (o_add a4 1)), some (vI (o_add a5 1))]) rfl ?_
        exact ih a2 a3 (o_add a4 1) (o_add a5 1) x2.2 _ _ h
def f_X7_countRung (a2 : Int) (a3 : Int) (M : AM) : Option (Int × AM) := f_X7_countRung_6 zB a2 a3 0 0 M
theorem e_X7_countRung {Y : List (Nat × Nat)} (d : Nat) (a2 : Int) (a3 : Int) (M : AM) (x : Int) (N : AM) (h : f_X7_countRung a2 a3 M = some (x, N)) : Ev Y (d + 2) m_X7_countRung 0 [some (vR 63 17 0), some (vR 23 11 0), some (vI a2), some (vI a3), none, none] [] M (some (vI x)) N := by
  unfold f_X7_countRung at h
  refine Z_blk k_X7_countRung 4 (pc' := 6) (lo' := [some (vR 63 17 0), some (vR 23 11 0), some (vI a2), some (vI a3), some (vI 0), some (vI 0)]) (st' := []) (M1 := M) rfl ?_
  refine Z_mask [true, true, true, true, true, true] (lo0 := [some (vR 63 17 0), some (vR 23 11 0), some (vI a2), some (vI a3), some (vI 0), some (vI 0)]) rfl ?_
  exact e_X7_countRung_6 d zB a2 a3 0 0 M _ _ h
theorem l_7_69 : zhas 5018 (Jvm.Cond.methodLink "BellPullHouse$Wiring" 69 yX1_isMendable) = true := by decide +kernel
def f_X7_mendableSet_4 : Nat → Int → Int → AM → Option (Int × AM)
  | 0, _, _, _ => none
  | n + 1, a1, a2, M => if M 23 3 ≤ a2 then some (a1, M) else ((f_X1_isMendable 23 a2 M).bind fun x1 => if x1.1 = 0 then f_X7_mendableSet_4 n a1 (o_add a2 1) x1.2 else f_X7_mendableSet_4 n (o_or a1 (o_shl 1 a2)) (o_add a2 1) x1.2)
theorem e_X7_mendableSet_4 {Y : List (Nat × Nat)} (d : Nat) : ∀ (n : Nat) (a1 : Int) (a2 : Int) (M : AM) (x : Int) (N : AM), f_X7_mendableSet_4 n a1 a2 M = some (x, N) → Ev Y (d + 2) m_X7_mendableSet 4 [some (vR 23 11 0), some (vI a1), some (vI a2)] [] M (some (vI x)) N := by
  intro n
  induction n with
  | zero => intro a1 a2 M x N h; cases h
  | succ n ih =>
    intro a1 a2 M x N h
    simp only [f_X7_mendableSet_4] at h
    refine Z_blk k_X7_mendableSet 3 (pc' := 9) (lo' := [some (vR 23 11 0), some (vI a1), some (vI a2)]) (st' := [vI (M 23 3), vI a2]) (M1 := M) rfl ?_
    refine Z_icmp k_X7_mendableSet rfl 32 rfl (fun hc => ?_) (fun hc => ?_)
    · replace h := of_pos hc h
      refine Z_blk k_X7_mendableSet 1 (pc' := 33) (lo' := [some (vR 23 11 0), some (vI a1), some (vI a2)]) (st' := [vI a1]) (M1 := M) rfl ?_
      cases h
      exact Z_ret ⟨Or.inl rfl, _, rfl⟩ rfl
    · replace h := of_neg hc h
      refine Z_blk k_X7_mendableSet 2 (pc' := 14) (lo' := [some (vR 23 11 0), some (vI a1), some (vI a2)]) (st' := [vI a2, vR 23 11 0]) (M1 := M) rfl ?_
      obtain ⟨x1, hx1, h⟩ := Option.bind_eq_some_iff.mp h
      refine Z_callV8 k_X7_mendableSet k_X1_isMendable rfl rfl (l_7_69) (ci := 1) rfl [vI a2] [] rfl rfl (Nat.le_of_ble_eq_true rfl) (Nat.le_of_ble_eq_true rfl) (e_X1_isMendable (d + 0) 23 a2 M _ _ hx1) ?_
      refine Z_if k_X7_mendableSet rfl 26 rfl (fun hc => ?_) (fun hc => ?_)
      · replace h := of_pos hc h
        refine Z_blk k_X7_mendableSet 2 (pc' := 4) (lo' := [some (vR 23 11 0), some (vI a1), some (vI (o_add a2 1))]) (st' := []) (M1 := x1.2) rfl ?_
        refine Z_mask [true, true, true] (lo0 := [some (vR 23 11 0), some (vI a1), some (vI (o_add a2 1))]) rfl ?_
        exact ih a1 (o_add a2 1) x1.2 _ _ h
      · replace h := of_neg hc h
        refine Z_blk k_X7_mendableSet 8 (pc' := 4) (lo' := [some (vR 23 11 0), some (vI (o_or a1 (o_shl 1 a2))), some (vI (o_add a2 1))]) (st' := []) (M1 := x1.2) rfl ?_
        refine Z_mask [true, true, true] (lo0 := [some (vR 23 11 0), some (vI (o_or a1 (o_shl 1 a2))), some (vI (o_add a2 1))]) rfl ?_
        exact ih (o_or a1 (o_shl 1 a2)) (o_add a2 1) x1.2 _ _ h
def f_X7_mendableSet (M : AM) : Option (Int × AM) := f_X7_mendableSet_4 zB 0 0 M
theorem e_X7_mendableSet {Y : List (Nat × Nat)} (d : Nat) (M : AM) (x : Int) (N : AM) (h : f_X7_mendableSet M = some (x, N)) : Ev Y (d + 2) m_X7_mendableSet 0 [some (vR 23 11 0), none, none] [] M (some (vI x)) N := by
  unfold f_X7_mendableSet at h
  refine Z_blk k_X7_mendableSet 4 (pc' := 4) (lo' := [some (vR 23 11 0), some (vI 0), some (vI 0)]) (st' := []) (M1 := M) rfl ?_
  refine Z_mask [true, true, true] (lo0 := [some (vR 23 11 0), some (vI 0), some (vI 0)]) rfl ?_
  exact e_X7_mendableSet_4 d zB 0 0 M _ _ h
theorem l_7_72 : zhas 5015 (Jvm.Cond.methodLink "BellPullHouse$Wiring" 72 yX7_mendableSet) = true := by decide +kernel
theorem l_7_79 : zhas 5019 (Jvm.Cond.methodLink "BellPullHouse$Wiring" 79 yX7_allRung) = true := by decide +kernel
theorem l_7_83 : zhas 5033 (Jvm.Cond.methodLink "BellPullHouse$Wiring" 83 yJ6_bitCount_0f7a4) = true := by decide +kernel
def f_X7_leastMends_46 (k_34 : Int → Int → Int → Int → AM → Option (Int × AM)) : Nat → Int → Int → Int → Int → Int → AM → Option (Int × AM)
  | 0, _, _, _, _, _, _ => none
  | n + 1, a2, a3, a4, a5, a6, M => if a4 ≤ a6 then k_34 a2 a3 a4 (o_add a5 1) M else (if ¬ o_and a6 (o_xor a3 (-1)) = 0 then f_X7_leastMends_46 k_34 n a2 a3 a4 a5 (o_add a6 1) M else ((f_J6_bitCount_0f7a4 a6 M).bind fun x1 => if ¬ x1.1 = a5 then f_X7_leastMends_46 k_34 n a2 a3 a4 a5 (o_add a6 1) x1.2 else ((f_X7_allRung a2 (o_or (x1.2 23 7) a6) a6 x1.2).bind fun x2 => if x2.1 = 0 then f_X7_leastMends_46 k_34 n a2 a3 a4 a5 (o_add a6 1) x2.2 else some (a6, x2.2))))
theorem e_X7_leastMends_46 {Y : List (Nat × Nat)} (d : Nat) (k_34 : Int → Int → Int → Int → AM → Option (Int × AM)) (hk_34 : ∀ (a2 : Int) (a3 : Int) (a4 : Int) (a5 : Int) (M : AM) (x : Int) (N : AM), k_34 a2 a3 a4 a5 M = some (x, N) → Ev Y (d + 3) m_X7_leastMends 34 [some (vR 63 17 0), some (vR 23 11 0), some (vI a2), some (vI a3), some (vI a4), some (vI a5), none] [] M (some (vI x)) N) : ∀ (n : Nat) (a2 : Int) (a3 : Int) (a4 : Int) (a5 : Int) (a6 : Int) (M : AM) (x : Int) (N : AM), f_X7_leastMends_46 k_34 n a2 a3 a4 a5 a6 M = some (x, N) → Ev Y (d + 3) m_X7_leastMends 46 [some (vR 63 17 0), some (vR 23 11 0), some (vI a2), some (vI a3), some (vI a4), some (vI a5), some (vI a6)] [] M (some (vI x)) N := by
  intro n
  induction n with
  | zero => intro a2 a3 a4 a5 a6 M x N h; cases h
  | succ n ih =>
    intro a2 a3 a4 a5 a6 M x N h
    simp only [f_X7_leastMends_46] at h
    refine Z_blk k_X7_leastMends 2 (pc' := 50) (lo' := [some (vR 63 17 0), some (vR 23 11 0), some (vI a2), some (vI a3), some (vI a4), some (vI a5), some (vI a6)]) (st' := [vI a4, vI a6]) (M1 := M) rfl ?_
    refine Z_icmp k_X7_leastMends rfl 99 rfl (fun hc => ?_) (fun hc => ?_)
    · replace h := of_pos hc h
      refine Z_blk k_X7_leastMends 2 (pc' := 34) (lo' := [some (vR 63 17 0), some (vR 23 11 0), some (vI a2), some (vI a3), some (vI a4), some (vI (o_add a5 1)), some (vI a6)]) (st' := []) (M1 := M) rfl ?_
      refine Z_mask [true, true, true, true, true, true, false] (lo0 := [some (vR 63 17 0), some (vR 23 11 0), some (vI a2), some (vI a3), some (vI a4), some (vI (o_add a5 1)), none]) rfl ?_
      exact hk_34 a2 a3 a4 (o_add a5 1) M _ _ h
    · replace h := of_neg hc h
      refine Z_blk k_X7_leastMends 5 (pc' := 59) (lo' := [some (vR 63 17 0), some (vR 23 11 0), some (vI a2), some (vI a3), some (vI a4), some (vI a5), some (vI a6)]) (st' := [vI (o_and a6 (o_xor a3 (-1)))]) (M1 := M) rfl ?_
      refine Z_if k_X7_leastMends rfl 93 rfl (fun hc => ?_) (fun hc => ?_)
      · replace h := of_pos hc h
        refine Z_blk k_X7_leastMends 2 (pc' := 46) (lo' := [some (vR 63 17 0), some (vR 23 11 0), some (vI a2), some (vI a3), some (vI a4), some (vI a5), some (vI (o_add a6 1))]) (st' := []) (M1 := M) rfl ?_
        refine Z_mask [true, true, true, true, true, true, true] (lo0 := [some (vR 63 17 0), some (vR 23 11 0), some (vI a2), some (vI a3), some (vI a4), some (vI a5), some (vI (o_add a6 1))]) rfl ?_
        exact ih a2 a3 a4 a5 (o_add a6 1) M _ _ h
      · replace h := of_neg hc h
        refine Z_blk k_X7_leastMends 1 (pc' := 64) (lo' := [some (vR 63 17 0), some (vR 23 11 0), some (vI a2), some (vI a3), some (vI a4), some (vI a5), some (vI a6)]) (st' := [vI a6]) (M1 := M) rfl ?_
        obtain ⟨x1, hx1, h⟩ := Option.bind_eq_some_iff.mp h
        refine Z_callS8 k_X7_leastMends k_J6_bitCount_0f7a4 rfl rfl (l_7_83) [vI a6] [] rfl rfl (Nat.le_of_ble_eq_true rfl) (Nat.le_of_ble_eq_true rfl) (e_J6_bitCount_0f7a4 (d + 2) a6 M _ _ hx1) ?_
        refine Z_blk k_X7_leastMends 1 (pc' := 69) (lo' := [some (vR 63 17 0), some (vR 23 11 0), some (vI a2), some (vI a3), some (vI a4), some (vI a5), some (vI a6)]) (st' := [vI a5, vI x1.1]) (M1 := x1.2) rfl ?_
        refine Z_icmp k_X7_leastMends rfl 93 rfl (fun hc => ?_) (fun hc => ?_)
        · replace h := of_pos hc h
          refine Z_blk k_X7_leastMends 2 (pc' := 46) (lo' := [some (vR 63 17 0), some (vR 23 11 0), some (vI a2), some (vI a3), some (vI a4), some (vI a5), some (vI (o_add a6 1))]) (st' := []) (M1 := x1.2) rfl ?_
          refine Z_mask [true, true, true, true, true, true, true] (lo0 := [some (vR 63 17 0), some (vR 23 11 0), some (vI a2), some (vI a3), some (vI a4), some (vI a5), some (vI (o_add a6 1))]) rfl ?_
          exact ih a2 a3 a4 a5 (o_add a6 1) x1.2 _ _ h
        · replace h := of_neg hc h
          refine Z_blk k_X7_leastMends 8 (pc' := 84) (lo' := [some (vR 63 17 0), some (vR 23 11 0), some (vI a2), some (vI a3), some (vI a4), some (vI a5), some (vI a6)]) (st' := [vI a6, vI (o_or (x1.2 23 7) a6), vI a2, vR 23 11 0, vR 63 17 0]) (M1 := x1.2) rfl ?_
          obtain ⟨x2, hx2, h⟩ := Option.bind_eq_some_iff.mp h
          refine Z_callV8 k_X7_leastMends k_X7_allRung rfl rfl (l_7_79) (ci := 7) rfl [vR 23 11 0, vI a2, vI (o_or (x1.2 23 7) a6), vI a6] [] rfl rfl (Nat.le_of_ble_eq_true rfl) (Nat.le_of_ble_eq_true rfl) (e_X7_allRung (d + 0) a2 (o_or (x1.2 23 7) a6) a6 x1.2 _ _ hx2) ?_
          refine Z_if k_X7_leastMends rfl 93 rfl (fun hc => ?_) (fun hc => ?_)
          · replace h := of_pos hc h
            refine Z_blk k_X7_leastMends 2 (pc' := 46) (lo' := [some (vR 63 17 0), some (vR 23 11 0), some (vI a2), some (vI a3), some (vI a4), some (vI a5), some (vI (o_add a6 1))]) (st' := []) (M1 := x2.2) rfl ?_
            refine Z_mask [true, true, true, true, true, true, true] (lo0 := [some (vR 63 17 0), some (vR 23 11 0), some (vI a2), some (vI a3), some (vI a4), some (vI a5), some (vI (o_add a6 1))]) rfl ?_
            exact ih a2 a3 a4 a5 (o_add a6 1) x2.2 _ _ h
          · replace h := of_neg hc h
            refine Z_blk k_X7_leastMends 1 (pc' := 92) (lo' := [some (vR 63 17 0), some (vR 23 11 0), some (vI a2), some (vI a3), some (vI a4), some (vI a5), some (vI a6)]) (st' := [vI a6]) (M1 := x2.2) rfl ?_
            cases h
            exact Z_ret ⟨Or.inl rfl, _, rfl⟩ rfl
def f_X7_leastMends_34 : Nat → Int → Int → Int → Int → AM → Option (Int × AM)
  | 0, _, _, _, _, _ => none
  | n + 1, a2, a3, a4, a5, M => if M 23 3 ≤ a5 then some (a3, M) else f_X7_leastMends_46 (f_X7_leastMends_34 n) zB a2 a3 a4 a5 0 M
theorem e_X7_leastMends_34 {Y : List (Nat × Nat)} (d : Nat) : ∀ (n : Nat) (a2 : Int) (a3 : Int) (a4 : Int) (a5 : Int) (M : AM) (x : Int) (N : AM), f_X7_leastMends_34 n a2 a3 a4 a5 M = some (x, N) → Ev Y (d + 3) m_X7_leastMends 34 [some (vR 63 17 0), some (vR 23 11 0), some (vI a2), some (vI a3), some (vI a4), some (vI a5), none] [] M (some (vI x)) N := by
  intro n
  induction n with
  | zero => intro a2 a3 a4 a5 M x N h; cases h
  | succ n ih =>
    intro a2 a3 a4 a5 M x N h
    simp only [f_X7_leastMends_34] at h
    refine Z_blk k_X7_leastMends 3 (pc' := 40) (lo' := [some (vR 63 17 0), some (vR 23 11 0), some (vI a2), some (vI a3), some (vI a4), some (vI a5), none]) (st' := [vI (M 23 3), vI a5]) (M1 := M) rfl ?_
    refine Z_icmp k_X7_leastMends rfl 105 rfl (fun hc => ?_) (fun hc => ?_)
    · replace h := of_pos hc h
      refine Z_blk k_X7_leastMends 1 (pc' := 106) (lo' := [some (vR 63 17 0), some (vR 23 11 0), some (vI a2), some (vI a3), some (vI a4), some (vI a5), none]) (st' := [vI a3]) (M1 := M) rfl ?_
      cases h
      exact Z_ret ⟨Or.inl rfl, _, rfl⟩ rfl
    · replace h := of_neg hc h
      refine Z_blk k_X7_leastMends 2 (pc' := 46) (lo' := [some (vR 63 17 0), some (vR 23 11 0), some (vI a2), some (vI a3), some (vI a4), some (vI a5), some (vI 0)]) (st' := []) (M1 := M) rfl ?_
      refine Z_mask [true, true, true, true, true, true, true] (lo0 := [some (vR 63 17 0), some (vR 23 11 0), some (vI a2), some (vI a3), some (vI a4), some (vI a5), some (vI 0)]) rfl ?_
      exact e_X7_leastMends_46 d (f_X7_leastMends_34 n) ih zB a2 a3 a4 a5 0 M _ _ h
def f_X7_leastMends (a2 : Int) (M : AM) : Option (Int × AM) := (f_X7_mendableSet M).bind fun x1 => (f_X7_allRung a2 (o_or (x1.2 23 7) x1.1) x1.1 x1.2).bind fun x2 => if ¬ x2.1 = 0 then f_X7_leastMends_34 zB a2 x1.1 (o_shl 1 (x2.2 23 3)) 0 x2.2 else some ((-1), x2.2)
theorem e_X7_leastMends {Y : List (Nat × Nat)} (d : Nat) (a2 : Int) (M : AM) (x : Int) (N : AM) (h : f_X7_leastMends a2 M = some (x, N)) : Ev Y (d + 3) m_X7_leastMends 0 [some (vR 63 17 0), some (vR 23 11 0), some (vI a2), none, none, none, none] [] M (some (vI x)) N := by
  unfold f_X7_leastMends at h
  refine Z_blk k_X7_leastMends 1 (pc' := 1) (lo' := [some (vR 63 17 0), some (vR 23 11 0), some (vI a2), none, none, none, none]) (st' := [vR 23 11 0]) (M1 := M) rfl ?_
  obtain ⟨x1, hx1, h⟩ := Option.bind_eq_some_iff.mp h
  refine Z_callS8 k_X7_leastMends k_X7_mendableSet rfl rfl (l_7_72) [vR 23 11 0] [] rfl rfl (Nat.le_of_ble_eq_true rfl) (Nat.le_of_ble_eq_true rfl) (e_X7_mendableSet (d + 0) M _ _ hx1) ?_
  refine Z_blk k_X7_leastMends 9 (pc' := 15) (lo' := [some (vR 63 17 0), some (vR 23 11 0), some (vI a2), some (vI x1.1), none, none, none]) (st' := [vI x1.1, vI (o_or (x1.2 23 7) x1.1), vI a2, vR 23 11 0, vR 63 17 0]) (M1 := x1.2) rfl ?_
  obtain ⟨x2, hx2, h⟩ := Option.bind_eq_some_iff.mp h
  refine Z_callV8 k_X7_leastMends k_X7_allRung rfl rfl (l_7_79) (ci := 7) rfl [vR 23 11 0, vI a2, vI (o_or (x1.2 23 7) x1.1), vI x1.1] [] rfl rfl (Nat.le_of_ble_eq_true rfl) (Nat.le_of_ble_eq_true rfl) (e_X7_allRung (d + 0) a2 (o_or (x1.2 23 7) x1.1) x1.1 x1.2 _ _ hx2) ?_
  refine Z_if k_X7_leastMends rfl 23 rfl (fun hc => ?_) (fun hc => ?_)
  · replace h := of_pos hc h
    refine Z_blk k_X7_leastMends 7 (pc' := 34) (lo' := [some (vR 63 17 0), some (vR 23 11 0), some (vI a2), some (vI x1.1), some (vI (o_shl 1 (x2.2 23 3))), some (vI 0), none]) (st' := []) (M1 := x2.2) rfl ?_
    refine Z_mask [true, true, true, true, true, true, false] (lo0 := [some (vR 63 17 0), some (vR 23 11 0), some (vI a2), some (vI x1.1), some (vI (o_shl 1 (x2.2 23 3))), some (vI 0), none]) rfl ?_
    exact e_X7_leastMends_34 d zB a2 x1.1 (o_shl 1 (x2.2 23 3)) 0 x2.2 _ _ h
  · replace h := of_neg hc h
    refine Z_blk k_X7_leastMends 1 (pc' := 22) (lo' := [some (vR 63 17 0), some (vR 23 11 0), some (vI a2), some (vI x1.1), none, none, none]) (st' := [vI (-1)]) (M1 := x2.2) rfl ?_
    cases h
    exact Z_ret ⟨Or.inl rfl, _, rfl⟩ rfl
def f_X7_leastCuts_23 (k_11 : Int → Int → Int → Int → AM → Option (Int × AM)) : Nat → Int → Int → Int → Int → Int → AM → Option (Int × AM)
  | 0, _, _, _, _, _, _ => none
  | n + 1, a2, a3, a4, a5, a6, M => if a4 ≤ a6 then k_11 a2 a3 a4 (o_add a5 1) M else (if ¬ o_and a6 (o_xor (M 23 7) (-1)) = 0 then f_X7_leastCuts_23 k_11 n a2 a3 a4 a5 (o_add a6 1) M else ((f_J6_bitCount_0f7a4 a6 M).bind fun x1 => if ¬ x1.1 = a5 then f_X7_leastCuts_23 k_11 n a2 a3 a4 a5 (o_add a6 1) x1.2 else ((f_X7_carries a2 a3 (o_and (x1.2 23 7) (o_xor a6 (-1))) 0 x1.2).bind fun x2 => if ¬ x2.1 = 0 then f_X7_leastCuts_23 k_11 n a2 a3 a4 a5 (o_add a6 1) x2.2 else some (a6, x2.2))))
theorem e_X7_leastCuts_23 {Y : List (Nat × Nat)} (d : Nat) (k_11 : Int → Int → Int → Int → AM → Option (Int × AM)) (hk_11 : ∀ (a2 : Int) (a3 : Int) (a4 : Int) (a5 : Int) (M : AM) (x : Int) (N : AM), k_11 a2 a3 a4 a5 M = some (x, N) → Ev Y (d + 2) m_X7_leastCuts 11 [some (vR 63 17 0), some (vR 23 11 0), some (vI a2), some (vI a3), some (vI a4), some (vI a5), none] [] M (some (vI x)) N) : ∀ (n : Nat) (a2 : Int) (a3 : Int) (a4 : Int) (a5 : Int) (a6 : Int) (M : AM) (x : Int) (N : AM), f_X7_leastCuts_23 k_11 n a2 a3 a4 a5 a6 M = some (x, N) → Ev Y (d + 2) m_X7_leastCuts 23 [some (vR 63 17 0), some (vR 23 11 0), some (vI a2), some (vI a3), some (vI a4), some (vI a5), some (vI a6)] [] M (some (vI x)) N := by
  intro n
  induction n with
  | zero => intro a2 a3 a4 a5 a6 M x N h; cases h
  | succ n ih =>
    intro a2 a3 a4 a5 a6 M x N h
    simp only [f_X7_leastCuts_23] at h
    refine Z_blk k_X7_leastCuts 2 (pc' := 27) (lo' := [some (vR 63 17 0), some (vR 23 11 0), some (vI a2), some (vI a3), some (vI a4), some (vI a5), some (vI a6)]) (st' := [vI a4, vI a6]) (M1 := M) rfl ?_
    refine Z_icmp k_X7_leastCuts rfl 81 rfl (fun hc => ?_) (fun hc => ?_)
    · replace h := of_pos hc h
      refine Z_blk k_X7_leastCuts 2 (pc' := 11) (lo' := [some (vR 63 17 0), some (vR 23 11 0), some (vI a2), some (vI a3), some (vI a4), some (vI (o_add a5 1)), some (vI a6)]) (st' := []) (M1 := M) rfl ?_
      refine Z_mask [true, true, true, true, true, true, false] (lo0 := [some (vR 63 17 0), some (vR 23 11 0), some (vI a2), some (vI a3), some (vI a4), some (vI (o_add a5 1)), none]) rfl ?_
      exact hk_11 a2 a3 a4 (o_add a5 1) M _ _ h
    · replace h := of_neg hc h
      refine Z_blk k_X7_leastCuts 6 (pc' := 39) (lo' := [some (vR 63 17 0), some (vR 23 11 0), some (vI a2), some (vI a3), some (vI a4), some (vI a5), some (vI a6)]) (st' := [vI (o_and a6 (o_xor (M 23 7) (-1)))]) (M1 := M) rfl ?_
      refine Z_if k_X7_leastCuts rfl 75 rfl (fun hc => ?_) (fun hc => ?_)
      · replace h := of_pos hc h
        refine Z_blk k_X7_leastCuts 2 (pc' := 23) (lo' := [some (vR 63 17 0), some (vR 23 11 0), some (vI a2), some (vI a3), some (vI a4), some (vI a5), some (vI (o_add a6 1))]) (st' := []) (M1 := M) rfl ?_
        refine Z_mask [true, true, true, true, true, true, true] (lo0 := [some (vR 63 17 0), some (vR 23 11 0), some (vI a2), some (vI a3), some (vI a4), some (vI a5), some (vI (o_add a6 1))]) rfl ?_
        exact ih a2 a3 a4 a5 (o_add a6 1) M _ _ h
      · replace h := of_neg hc h
        refine Z_blk k_X7_leastCuts 1 (pc' := 44) (lo' := [some (vR 63 17 0), some (vR 23 11 0), some (vI a2), some (vI a3), some (vI a4), some (vI a5), some (vI a6)]) (st' := [vI a6]) (M1 := M) rfl ?_
        obtain ⟨x1, hx1, h⟩ := Option.bind_eq_some_iff.mp h
        refine Z_callS8 k_X7_leastCuts k_J6_bitCount_0f7a4 rfl rfl (l_7_83) [vI a6] [] rfl rfl (Nat.le_of_ble_eq_true rfl) (Nat.le_of_ble_eq_true rfl) (e_J6_bitCount_0f7a4 (d + 1) a6 M _ _ hx1) ?_
        refine Z_blk k_X7_leastCuts 1 (pc' := 49) (lo' := [some (vR 63 17 0), some (vR 23 11 0), some (vI a2), some (vI a3), some (vI a4), some (vI a5), some (vI a6)]) (st' := [vI a5, vI x1.1]) (M1 := x1.2) rfl ?_
        refine Z_icmp k_X7_leastCuts rfl 75 rfl (fun hc => ?_) (fun hc => ?_)
        · replace h := of_pos hc h
          refine Z_blk k_X7_leastCuts 2 (pc' := 23) (lo' := [some (vR 63 17 0), some (vR 23 11 0), some (vI a2), some (vI a3), some (vI a4), some (vI a5), some (vI (o_add a6 1))]) (st' := []) (M1 := x1.2) rfl ?_
          refine Z_mask [true, true, true, true, true, true, true] (lo0 := [some (vR 63 17 0), some (vR 23 11 0), some (vI a2), some (vI a3), some (vI a4), some (vI a5), some (vI (o_add a6 1))]) rfl ?_
          exact ih a2 a3 a4 a5 (o_add a6 1) x1.2 _ _ h
        · replace h := of_neg hc h
          refine Z_blk k_X7_leastCuts 11 (pc' := 66) (lo' := [some (vR 63 17 0), some (vR 23 11 0), some (vI a2), some (vI a3), some (vI a4), some (vI a5), some (vI a6)]) (st' := [vI 0, vI (o_and (x1.2 23 7) (o_xor a6 (-1))), vI a3, vI a2, vR 23 11 0, vR 63 17 0]) (M1 := x1.2) rfl ?_
          obtain ⟨x2, hx2, h⟩ := Option.bind_eq_some_iff.mp h
          refine Z_callV8 k_X7_leastCuts k_X7_carries rfl rfl (l_7_65) (ci := 7) rfl [vR 23 11 0, vI a2, vI a3, vI (o_and (x1.2 23 7) (o_xor a6 (-1))), vI 0] [] rfl rfl (Nat.le_of_ble_eq_true rfl) (Nat.le_of_ble_eq_true rfl) (e_X7_carries (d + 0) a2 a3 (o_and (x1.2 23 7) (o_xor a6 (-1))) 0 x1.2 _ _ hx2) ?_
          refine Z_if k_X7_leastCuts rfl 75 rfl (fun hc => ?_) (fun hc => ?_)
          · replace h := of_pos hc h
            refine Z_blk k_X7_leastCuts 2 (pc' := 23) (lo' := [some (vR 63 17 0), some (vR 23 11 0), some (vI a2), some (vI a3), some (vI a4), some (vI a5), some (vI (o_add a6 1))]) (st' := []) (M1 := x2.2) rfl ?_
            refine Z_mask [true, true, true, true, true, true, true] (lo0 := [some (vR 63 17 0), some (vR 23 11 0), some (vI a2), some (vI a3), some (vI a4), some (vI a5), some (vI (o_add a6 1))]) rfl ?_
            exact ih a2 a3 a4 a5 (o_add a6 1) x2.2 _ _ h
          · replace h := of_neg hc h
            refine Z_blk k_X7_leastCuts 1 (pc' := 74) (lo' := [some (vR 63 17 0), some (vR 23 11 0), some (vI a2), some (vI a3), some (vI a4), some (vI a5), some (vI a6)]) (st' := [vI a6]) (M1 := x2.2) rfl ?_
            cases h
            exact Z_ret ⟨Or.inl rfl, _, rfl⟩ rfl
def f_X7_leastCuts_11 : Nat → Int → Int → Int → Int → AM → Option (Int × AM)
  | 0, _, _, _, _, _ => none
  | n + 1, a2, a3, a4, a5, M => if M 23 3 ≤ a5 then some (M 23 7, M) else f_X7_leastCuts_23 (f_X7_leastCuts_11 n) zB a2 a3 a4 a5 0 M
theorem e_X7_leastCuts_11 {Y : List (Nat × Nat)} (d : Nat) : ∀ (n : Nat) (a2 : Int) (a3 : Int) (a4 : Int) (a5 : Int) (M : AM) (x : Int) (N : AM), f_X7_leastCuts_11 n a2 a3 a4 a5 M = some (x, N) → Ev Y (d + 2) m_X7_leastCuts 11 [some (vR 63 17 0), some (vR 23 11 0), some (vI a2), some (vI a3), some (vI a4), some (vI a5), none] [] M (some (vI x)) N := by
  intro n
  induction n with
  | zero => intro a2 a3 a4 a5 M x N h; cases h
  | succ n ih =>
    intro a2 a3 a4 a5 M x N h
    simp only [f_X7_leastCuts_11] at h
    refine Z_blk k_X7_leastCuts 3 (pc' := 17) (lo' := [some (vR 63 17 0), some (vR 23 11 0), some (vI a2), some (vI a3), some (vI a4), some (vI a5), none]) (st' := [vI (M 23 3), vI a5]) (M1 := M) rfl ?_
    refine Z_icmp k_X7_leastCuts rfl 87 rfl (fun hc => ?_) (fun hc => ?_)
    · replace h := of_pos hc h
      refine Z_blk k_X7_leastCuts 2 (pc' := 91) (lo' := [some (vR 63 17 0), some (vR 23 11 0), some (vI a2), some (vI a3), some (vI a4), some (vI a5), none]) (st' := [vI (M 23 7)]) (M1 := M) rfl ?_
      cases h
      exact Z_ret ⟨Or.inl rfl, _, rfl⟩ rfl
    · replace h := of_neg hc h
      refine Z_blk k_X7_leastCuts 2 (pc' := 23) (lo' := [some (vR 63 17 0), some (vR 23 11 0), some (vI a2), some (vI a3), some (vI a4), some (vI a5), some (vI 0)]) (st' := []) (M1 := M) rfl ?_
      refine Z_mask [true, true, true, true, true, true, true] (lo0 := [some (vR 63 17 0), some (vR 23 11 0), some (vI a2), some (vI a3), some (vI a4), some (vI a5), some (vI 0)]) rfl ?_
      exact e_X7_leastCuts_23 d (f_X7_leastCuts_11 n) ih zB a2 a3 a4 a5 0 M _ _ h
def f_X7_leastCuts (a2 : Int) (a3 : Int) (M : AM) : Option (Int × AM) := f_X7_leastCuts_11 zB a2 a3 (o_shl 1 (M 23 3)) 0 M
theorem e_X7_leastCuts {Y : List (Nat × Nat)} (d : Nat) (a2 : Int) (a3 : Int) (M : AM) (x : Int) (N : AM) (h : f_X7_leastCuts a2 a3 M = some (x, N)) : Ev Y (d + 2) m_X7_leastCuts 0 [some (vR 63 17 0), some (vR 23 11 0), some (vI a2), some (vI a3), none, none, none] [] M (some (vI x)) N := by
  unfold f_X7_leastCuts at h
  refine Z_blk k_X7_leastCuts 7 (pc' := 11) (lo' := [some (vR 63 17 0), some (vR 23 11 0), some (vI a2), some (vI a3), some (vI (o_shl 1 (M 23 3))), some (vI 0), none]) (st' := []) (M1 := M) rfl ?_
  refine Z_mask [true, true, true, true, true, true, false] (lo0 := [some (vR 63 17 0), some (vR 23 11 0), some (vI a2), some (vI a3), some (vI (o_shl 1 (M 23 3))), some (vI 0), none]) rfl ?_
  exact e_X7_leastCuts_11 d zB a2 a3 (o_shl 1 (M 23 3)) 0 M _ _ h
def f_X7_hangsOn (a2 : Int) (a3 : Int) (M : AM) : Option (Int × AM) := if 0 ≤ a2 ∧ a2 < 6 then ((f_X7_carries (M 27 (Int.toNat a2)) (M 28 (Int.toNat a2)) (o_and (M 23 7) (o_xor (o_shl 1 a3) (-1))) 0 M).bind fun x2 => if ¬ x2.1 = 0 then some (0, x2.2) else some (1, x2.2)) else none
theorem e_X7_hangsOn {Y : List (Nat × Nat)} (d : Nat) (a2 : Int) (a3 : Int) (M : AM) (x : Int) (N : AM) (h : f_X7_hangsOn a2 a3 M = some (x, N)) : Ev Y (d + 2) m_X7_hangsOn 0 [some (vR 63 17 0), some (vR 23 11 0), some (vI a2), some (vI a3)] [] M (some (vI x)) N := by
  unfold f_X7_hangsOn at h
  refine Z_blk k_X7_hangsOn 5 (pc' := 7) (lo' := [some (vR 63 17 0), some (vR 23 11 0), some (vI a2), some (vI a3)]) (st' := [vI a2, vR 27 0 6, vR 23 11 0, vR 63 17 0]) (M1 := M) rfl ?_
  obtain ⟨hc1, h⟩ := of_grd h
  refine Z_one k_X7_hangsOn rfl (pc' := 8) (lo' := [some (vR 63 17 0), some (vR 23 11 0), some (vI a2), some (vI a3)]) (st' := [vI (M 27 (Int.toNat a2)), vR 23 11 0, vR 63 17 0]) (M1 := M) (if_pos hc1) ?_
  refine Z_blk k_X7_hangsOn 3 (pc' := 13) (lo' := [some (vR 63 17 0), some (vR 23 11 0), some (vI a2), some (vI a3)]) (st' := [vI a2, vR 28 0 6, vI (M 27 (Int.toNat a2)), vR 23 11 0, vR 63 17 0]) (M1 := M) rfl ?_
  refine Z_one k_X7_hangsOn rfl (pc' := 14) (lo' := [some (vR 63 17 0), some (vR 23 11 0), some (vI a2), some (vI a3)]) (st' := [vI (M 28 (Int.toNat a2)), vI (M 27 (Int.toNat a2)), vR 23 11 0, vR 63 17 0]) (M1 := M) (if_pos hc1) ?_
  refine Z_blk k_X7_hangsOn 9 (pc' := 25) (lo' := [some (vR 63 17 0), some (vR 23 11 0), some (vI a2), some (vI a3)]) (st' := [vI 0, vI (o_and (M 23 7) (o_xor (o_shl 1 a3) (-1))), vI (M 28 (Int.toNat a2)), vI (M 27 (Int.toNat a2)), vR 23 11 0, vR 63 17 0]) (M1 := M) rfl ?_
  obtain ⟨x2, hx2, h⟩ := Option.bind_eq_some_iff.mp h
  refine Z_callV8 k_X7_hangsOn k_X7_carries rfl rfl (l_7_65) (ci := 7) rfl [vR 23 11 0, vI (M 27 (Int.toNat a2)), vI (M 28 (Int.toNat a2)), vI (o_and (M 23 7) (o_xor (o_shl 1 a3) (-1))), vI 0] [] rfl rfl (Nat.le_of_ble_eq_true rfl) (Nat.le_of_ble_eq_true rfl) (e_X7_carries (d + 0) (M 27 (Int.toNat a2)) (M 28 (Int.toNat a2)) (o_and (M 23 7) (o_xor (o_shl 1 a3) (-1))) 0 M _ _ hx2) ?_
  refine Z_if k_X7_hangsOn rfl 35 rfl (fun hc => ?_) (fun hc => ?_)
  · replace h := of_pos hc h
    refine Z_blk k_X7_hangsOn 1 (pc' := 36) (lo' := [some (vR 63 17 0), some (vR 23 11 0), some (vI a2), some (vI a3)]) (st' := [vI 0]) (M1 := x2.2) rfl ?_
    cases h
    exact Z_ret ⟨Or.inr ⟨rfl, Or.inl rfl⟩, _, rfl⟩ rfl
  · replace h := of_neg hc h
    refine Z_blk k_X7_hangsOn 2 (pc' := 36) (lo' := [some (vR 63 17 0), some (vR 23 11 0), some (vI a2), some (vI a3)]) (st' := [vI 1]) (M1 := x2.2) rfl ?_
    cases h
    exact Z_ret ⟨Or.inr ⟨rfl, Or.inr rfl⟩, _, rfl⟩ rfl
theorem l_7_89 : zhas 5068 (Jvm.Cond.methodLink "BellPullHouse$Wiring" 89 yX1_isWhole) = true := by decide +kernel
theorem l_7_92 : zhas 5069 (Jvm.Cond.methodLink "BellPullHouse$Wiring" 92 yX7_hangsOn) = true := by decide +kernel
def f_X7_hangSet_5 : Nat → Int → Int → Int → AM → Option (Int × AM)
  | 0, _, _, _, _ => none
  | n + 1, a2, a3, a4, M => if M 23 3 ≤ a4 then some (a3, M) else ((f_X1_isWhole 23 a4 M).bind fun x1 => if x1.1 = 0 then f_X7_hangSet_5 n a2 a3 (o_add a4 1) x1.2 else ((f_X7_hangsOn a2 a4 x1.2).bind fun x2 => if x2.1 = 0 then f_X7_hangSet_5 n a2 a3 (o_add a4 1) x2.2 else f_X7_hangSet_5 n a2 (o_or a3 (o_shl 1 a4)) (o_add a4 1) x2.2))
theorem e_X7_hangSet_5 {Y : List (Nat × Nat)} (d : Nat) : ∀ (n : Nat) (a2 : Int) (a3 : Int) (a4 : Int) (M : AM) (x : Int) (N : AM), f_X7_hangSet_5 n a2 a3 a4 M = some (x, N) → Ev Y (d + 3) m_X7_hangSet 5 [some (vR 63 17 0), some (vR 23 11 0), some (vI a2), some (vI a3), some (vI a4)] [] M (some (vI x)) N := by
  intro n
  induction n with
  | zero => intro a2 a3 a4 M x N h; cases h
  | succ n ih =>
    intro a2 a3 a4 M x N h
    simp only [f_X7_hangSet_5] at h
    refine Z_blk k_X7_hangSet 3 (pc' := 11) (lo' := [some (vR 63 17 0), some (vR 23 11 0), some (vI a2), some (vI a3), some (vI a4)]) (st' := [vI (M 23 3), vI a4]) (M1 := M) rfl ?_
    refine Z_icmp k_X7_hangSet rfl 47 rfl (fun hc => ?_) (fun hc => ?_)
    · replace h := of_pos hc h
      refine Z_blk k_X7_hangSet 1 (pc' := 48) (lo' := [some (vR 63 17 0), some (vR 23 11 0), some (vI a2), some (vI a3), some (vI a4)]) (st' := [vI a3]) (M1 := M) rfl ?_
      cases h
      exact Z_ret ⟨Or.inl rfl, _, rfl⟩ rfl
    · replace h := of_neg hc h
      refine Z_blk k_X7_hangSet 2 (pc' := 17) (lo' := [some (vR 63 17 0), some (vR 23 11 0), some (vI a2), some (vI a3), some (vI a4)]) (st' := [vI a4, vR 23 11 0]) (M1 := M) rfl ?_
      obtain ⟨x1, hx1, h⟩ := Option.bind_eq_some_iff.mp h
      refine Z_callV8 k_X7_hangSet k_X1_isWhole rfl rfl (l_7_89) (ci := 1) rfl [vI a4] [] rfl rfl (Nat.le_of_ble_eq_true rfl) (Nat.le_of_ble_eq_true rfl) (e_X1_isWhole (d + 2) 23 a4 M _ _ hx1) ?_
      refine Z_if k_X7_hangSet rfl 41 rfl (fun hc => ?_) (fun hc => ?_)
      · replace h := of_pos hc h
        refine Z_blk k_X7_hangSet 2 (pc' := 5) (lo' := [some (vR 63 17 0), some (vR 23 11 0), some (vI a2), some (vI a3), some (vI (o_add a4 1))]) (st' := []) (M1 := x1.2) rfl ?_
        refine Z_mask [true, true, true, true, true] (lo0 := [some (vR 63 17 0), some (vR 23 11 0), some (vI a2), some (vI a3), some (vI (o_add a4 1))]) rfl ?_
        exact ih a2 a3 (o_add a4 1) x1.2 _ _ h
      · replace h := of_neg hc h
        refine Z_blk k_X7_hangSet 4 (pc' := 28) (lo' := [some (vR 63 17 0), some (vR 23 11 0), some (vI a2), some (vI a3), some (vI a4)]) (st' := [vI a4, vI a2, vR 23 11 0, vR 63 17 0]) (M1 := x1.2) rfl ?_
        obtain ⟨x2, hx2, h⟩ := Option.bind_eq_some_iff.mp h
        refine Z_callV8 k_X7_hangSet k_X7_hangsOn rfl rfl (l_7_92) (ci := 7) rfl [vR 23 11 0, vI a2, vI a4] [] rfl rfl (Nat.le_of_ble_eq_true rfl) (Nat.le_of_ble_eq_true rfl) (e_X7_hangsOn (d + 0) a2 a4 x1.2 _ _ hx2) ?_
        refine Z_if k_X7_hangSet rfl 41 rfl (fun hc => ?_) (fun hc => ?_)
        · replace h := of_pos hc h
          refine Z_blk k_X7_hangSet 2 (pc' := 5) (lo' := [some (vR 63 17 0), some (vR 23 11 0), some (vI a2), some (vI a3), some (vI (o_add a4 1))]) (st' := []) (M1 := x2.2) rfl ?_
          refine Z_mask [true, true, true, true, true] (lo0 := [some (vR 63 17 0), some (vR 23 11 0), some (vI a2), some (vI a3), some (vI (o_add a4 1))]) rfl ?_
          exact ih a2 a3 (o_add a4 1) x2.2 _ _ h
        · replace h := of_neg hc h
          refine Z_blk k_X7_hangSet 8 (pc' := 5) (lo' := [some (vR 63 17 0), some (vR 23 11 0), some (vI a2), some (vI (o_or a3 (o_shl 1 a4))), some (vI (o_add a4 1))]) (st' := []) (M1 := x2.2) rfl ?_
          refine Z_mask [true, true, true, true, true] (lo0 := [some (vR 63 17 0), some (vR 23 11 0), some (vI a2), some (vI (o_or a3 (o_shl 1 a4))), some (vI (o_add a4 1))]) rfl ?_
          exact ih a2 (o_or a3 (o_shl 1 a4)) (o_add a4 1) x2.2 _ _ h
def f_X7_hangSet (a2 : Int) (M : AM) : Option (Int × AM) := f_X7_hangSet_5 zB a2 0 0 M
theorem e_X7_hangSet {Y : List (Nat × Nat)} (d : Nat) (a2 : Int) (M : AM) (x : Int) (N : AM) (h : f_X7_hangSet a2 M = some (x, N)) : Ev Y (d + 3) m_X7_hangSet 0 [some (vR 63 17 0), some (vR 23 11 0), some (vI a2), none, none] [] M (some (vI x)) N := by
  unfold f_X7_hangSet at h
  refine Z_blk k_X7_hangSet 4 (pc' := 5) (lo' := [some (vR 63 17 0), some (vR 23 11 0), some (vI a2), some (vI 0), some (vI 0)]) (st' := []) (M1 := M) rfl ?_
  refine Z_mask [true, true, true, true, true] (lo0 := [some (vR 63 17 0), some (vR 23 11 0), some (vI a2), some (vI 0), some (vI 0)]) rfl ?_
  exact e_X7_hangSet_5 d zB a2 0 0 M _ _ h
theorem l_7_96 : zhas 5081 (Jvm.Cond.methodLink "BellPullHouse$Wiring" 96 yX1_rungSet) = true := by decide +kernel
def f_X7_mostHungOn_37 (k_13 : Int → Int → Int → Int → AM → Option (Int × AM)) : Nat → Int → Int → Int → Int → Int → Int → AM → Option (Int × AM)
  | 0, _, _, _, _, _, _, _ => none
  | n + 1, a2, a3, a4, a5, a6, a7, M => if M 23 4 ≤ a7 then (if a6 ≤ a4 then k_13 a2 a3 a4 (o_add a5 1) M else k_13 a2 a5 a6 (o_add a5 1) M) else (if o_and (o_shr a2 a7) 1 = 0 then f_X7_mostHungOn_37 k_13 n a2 a3 a4 a5 a6 (o_add a7 1) M else ((f_X7_hangsOn a7 a5 M).bind fun x1 => if x1.1 = 0 then f_X7_mostHungOn_37 k_13 n a2 a3 a4 a5 a6 (o_add a7 1) x1.2 else f_X7_mostHungOn_37 k_13 n a2 a3 a4 a5 (o_add a6 1) (o_add a7 1) x1.2))
theorem e_X7_mostHungOn_37 {Y : List (Nat × Nat)} (d : Nat) (k_13 : Int → Int → Int → Int → AM → Option (Int × AM)) (hk_13 : ∀ (a2 : Int) (a3 : Int) (a4 : Int) (a5 : Int) (M : AM) (x : Int) (N : AM), k_13 a2 a3 a4 a5 M = some (x, N) → Ev Y (d + 5) m_X7_mostHungOn 13 [some (vR 63 17 0), some (vR 23 11 0), some (vI a2), some (vI a3), some (vI a4), some (vI a5), none, none] [] M (some (vI x)) N) : ∀ (n : Nat) (a2 : Int) (a3 : Int) (a4 : Int) (a5 : Int) (a6 : Int) (a7 : Int) (M : AM) (x : Int) (N : AM), f_X7_mostHungOn_37 k_13 n a2 a3 a4 a5 a6 a7 M = some (x, N) → Ev Y (d + 5) m_X7_mostHungOn 37 [some (vR 63 17 0), some (vR 23 11 0), some (vI a2), some (vI a3), some (vI a4), some (vI a5), some (vI a6), some (vI a7)] [] M (some (vI x)) N := by
  intro n
  induction n with
  | zero => intro a2 a3 a4 a5 a6 a7 M x N h; cases h
  | succ n ih =>
    intro a2 a3 a4 a5 a6 a7 M x N h
    simp only [f_X7_mostHungOn_37] at h
    refine Z_blk k_X7_mostHungOn 3 (pc' := 43) (lo' := [some (vR 63 17 0), some (vR 23 11 0), some (vI a2), some (vI a3), some (vI a4), some (vI a5), some (vI a6), some (vI a7)]) (st' := [vI (M 23 4), vI a7]) (M1 := M) rfl ?_
    refine Z_icmp k_X7_mostHungOn rfl 76 rfl (fun hc => ?_) (fun hc => ?_)
    · replace h := of_pos hc h
      refine Z_blk k_X7_mostHungOn 2 (pc' := 80) (lo' := [some (vR 63 17 0), some (vR 23 11 0), some (vI a2), some (vI a3), some (vI a4), some (vI a5), some (vI a6), some (vI a7)]) (st' := [vI a4, vI a6]) (M1 := M) rfl ?_
      refine Z_icmp k_X7_mostHungOn rfl 90 rfl (fun hc => ?_) (fun hc => ?_)
      · replace h := of_pos hc h
        refine Z_blk k_X7_mostHungOn 2 (pc' := 13) (lo' := [some (vR 63 17 0), some (vR 23 11 0), some (vI a2), some (vI a3), some (vI a4), some (vI (o_add a5 1)), some (vI a6), some (vI a7)]) (st' := []) (M1 := M) rfl ?_
        refine Z_mask [true, true, true, true, true, true, false, false] (lo0 := [some (vR 63 17 0), some (vR 23 11 0), some (vI a2), some (vI a3), some (vI a4), some (vI (o_add a5 1)), none, none]) rfl ?_
        exact hk_13 a2 a3 a4 (o_add a5 1) M _ _ h
      · replace h := of_neg hc h
        refine Z_blk k_X7_mostHungOn 6 (pc' := 13) (lo' := [some (vR 63 17 0), some (vR 23 11 0), some (vI a2), some (vI a5), some (vI a6), some (vI (o_add a5 1)), some (vI a6), some (vI a7)]) (st' := []) (M1 := M) rfl ?_
        refine Z_mask [true, true, true, true, true, true, false, false] (lo0 := [some (vR 63 17 0), some (vR 23 11 0), some (vI a2), some (vI a5), some (vI a6), some (vI (o_add a5 1)), none, none]) rfl ?_
        exact hk_13 a2 a5 a6 (o_add a5 1) M _ _ h
    · replace h := of_neg hc h
      refine Z_blk k_X7_mostHungOn 5 (pc' := 52) (lo' := [some (vR 63 17 0), some (vR 23 11 0), some (vI a2), some (vI a3), some (vI a4), some (vI a5), some (vI a6), some (vI a7)]) (st' := [vI (o_and (o_shr a2 a7) 1)]) (M1 := M) rfl ?_
      refine Z_if k_X7_mostHungOn rfl 70 rfl (fun hc => ?_) (fun hc => ?_)
      · replace h := of_pos hc h
        refine Z_blk k_X7_mostHungOn 2 (pc' := 37) (lo' := [some (vR 63 17 0), some (vR 23 11 0), some (vI a2), some (vI a3), some (vI a4), some (vI a5), some (vI a6), some (vI (o_add a7 1))]) (st' := []) (M1 := M) rfl ?_
        refine Z_mask [true, true, true, true, true, true, true, true] (lo0 := [some (vR 63 17 0), some (vR 23 11 0), some (vI a2), some (vI a3), some (vI a4), some (vI a5), some (vI a6), some (vI (o_add a7 1))]) rfl ?_
        exact ih a2 a3 a4 a5 a6 (o_add a7 1) M _ _ h
      · replace h := of_neg hc h
        refine Z_blk k_X7_mostHungOn 4 (pc' := 61) (lo' := [some (vR 63 17 0), some (vR 23 11 0), some (vI a2), some (vI a3), some (vI a4), some (vI a5), some (vI a6), some (vI a7)]) (st' := [vI a5, vI a7, vR 23 11 0, vR 63 17 0]) (M1 := M) rfl ?_
        obtain ⟨x1, hx1, h⟩ := Option.bind_eq_some_iff.mp h
        refine Z_callV8 k_X7_mostHungOn k_X7_hangsOn rfl rfl (l_7_92) (ci := 7) rfl [vR 23 11 0, vI a7, vI a5] [] rfl rfl (Nat.le_of_ble_eq_true rfl) (Nat.le_of_ble_eq_true rfl) (e_X7_hangsOn (d + 2) a7 a5 M _ _ hx1) ?_
        refine Z_if k_X7_mostHungOn rfl 70 rfl (fun hc => ?_) (fun hc => ?_)
        · replace h := of_pos hc h
          refine Z_blk k_X7_mostHungOn 2 (pc' := 37) (lo' := [some (vR 63 17 0), some (vR 23 11 0), some (vI a2), some (vI a3), some (vI a4), some (vI a5), some (vI a6), some (vI (o_add a7 1))]) (st' := []) (M1 := x1.2) rfl ?_
          refine Z_mask [true, true, true, true, true, true, true, true] (lo0 := [some (vR 63 17 0), some (vR 23 11 0), some (vI a2), some (vI a3), some (vI a4), some (vI a5), some (vI a6), some (vI (o_add a7 1))]) rfl ?_
          exact ih a2 a3 a4 a5 a6 (o_add a7 1) x1.2 _ _ h
        · replace h := of_neg hc h
          refine Z_blk k_X7_mostHungOn 3 (pc' := 37) (lo' := [some (vR 63 17 0), some (vR 23 11 0), some (vI a2), some (vI a3), some (vI a4), some (vI a5), some (vI (o_add a6 1)), some (vI (o_add a7 1))]) (st' := []) (M1 := x1.2) rfl ?_
          refine Z_mask [true, true, true, true, true, true, true, true] (lo0 := [some (vR 63 17 0), some (vR 23 11 0), some (vI a2), some (vI a3), some (vI a4), some (vI a5), some (vI (o_add a6 1)), some (vI (o_add a7 1))]) rfl ?_
          exact ih a2 a3 a4 a5 (o_add a6 1) (o_add a7 1) x1.2 _ _ h
def f_X7_mostHungOn_13 : Nat → Int → Int → Int → Int → AM → Option (Int × AM)
  | 0, _, _, _, _, _ => none
  | n + 1, a2, a3, a4, a5, M => if M 23 3 ≤ a5 then some (a3, M) else ((f_X1_isWhole 23 a5 M).bind fun x1 => if x1.1 = 0 then f_X7_mostHungOn_13 n a2 a3 a4 (o_add a5 1) x1.2 else f_X7_mostHungOn_37 (f_X7_mostHungOn_13 n) zB a2 a3 a4 a5 0 0 x1.2)
theorem e_X7_mostHungOn_13 {Y : List (Nat × Nat)} (d : Nat) : ∀ (n : Nat) (a2 : Int) (a3 : Int) (a4 : Int) (a5 : Int) (M : AM) (x : Int) (N : AM), f_X7_mostHungOn_13 n a2 a3 a4 a5 M = some (x, N) → Ev Y (d + 5) m_X7_mostHungOn 13 [some (vR 63 17 0), some (vR 23 11 0), some (vI a2), some (vI a3), some (vI a4), some (vI a5), none, none] [] M (some (vI x)) N := by
  intro n
  induction n with
  | zero => intro a2 a3 a4 a5 M x N h; cases h
  | succ n ih =>
    intro a2 a3 a4 a5 M x N h
    simp only [f_X7_mostHungOn_13] at h
    refine Z_blk k_X7_mostHungOn 3 (pc' := 19) (lo' := [some (vR 63 17 0), some (vR 23 11 0), some (vI a2), some (vI a3), some (vI a4), some (vI a5), none, none]) (st' := [vI (M 23 3), vI a5]) (M1 := M) rfl ?_
    refine Z_icmp k_X7_mostHungOn rfl 96 rfl (fun hc => ?_) (fun hc => ?_)
    · replace h := of_pos hc h
      refine Z_blk k_X7_mostHungOn 1 (pc' := 97) (lo' := [some (vR 63 17 0), some (vR 23 11 0), some (vI a2), some (vI a3), some (vI a4), some (vI a5), none, none]) (st' := [vI a3]) (M1 := M) rfl ?_
      cases h
      exact Z_ret ⟨Or.inl rfl, _, rfl⟩ rfl
    · replace h := of_neg hc h
      refine Z_blk k_X7_mostHungOn 2 (pc' := 25) (lo' := [some (vR 63 17 0), some (vR 23 11 0), some (vI a2), some (vI a3), some (vI a4), some (vI a5), none, none]) (st' := [vI a5, vR 23 11 0]) (M1 := M) rfl ?_
      obtain ⟨x1, hx1, h⟩ := Option.bind_eq_some_iff.mp h
      refine Z_callV8 k_X7_mostHungOn k_X1_isWhole rfl rfl (l_7_89) (ci := 1) rfl [vI a5] [] rfl rfl (Nat.le_of_ble_eq_true rfl) (Nat.le_of_ble_eq_true rfl) (e_X1_isWhole (d + 4) 23 a5 M _ _ hx1) ?_
      refine Z_if k_X7_mostHungOn rfl 90 rfl (fun hc => ?_) (fun hc => ?_)
      · replace h := of_pos hc h
        refine Z_blk k_X7_mostHungOn 2 (pc' := 13) (lo' := [some (vR 63 17 0), some (vR 23 11 0), some (vI a2), some (vI a3), some (vI a4), some (vI (o_add a5 1)), none, none]) (st' := []) (M1 := x1.2) rfl ?_
        refine Z_mask [true, true, true, true, true, true, false, false] (lo0 := [some (vR 63 17 0), some (vR 23 11 0), some (vI a2), some (vI a3), some (vI a4), some (vI (o_add a5 1)), none, none]) rfl ?_
        exact ih a2 a3 a4 (o_add a5 1) x1.2 _ _ h
      · replace h := of_neg hc h
        refine Z_blk k_X7_mostHungOn 4 (pc' := 37) (lo' := [some (vR 63 17 0), some (vR 23 11 0), some (vI a2), some (vI a3), some (vI a4), some (vI a5), some (vI 0), some (vI 0)]) (st' := []) (M1 := x1.2) rfl ?_
        refine Z_mask [true, true, true, true, true, true, true, true] (lo0 := [some (vR 63 17 0), some (vR 23 11 0), some (vI a2), some (vI a3), some (vI a4), some (vI a5), some (vI 0), some (vI 0)]) rfl ?_
        exact e_X7_mostHungOn_37 d (f_X7_mostHungOn_13 n) ih zB a2 a3 a4 a5 0 0 x1.2 _ _ h
def f_X7_mostHungOn (M : AM) : Option (Int × AM) := (f_X1_rungSet 23 M).bind fun x1 => f_X7_mostHungOn_13 zB x1.1 (-1) (-1) 0 x1.2
theorem e_X7_mostHungOn {Y : List (Nat × Nat)} (d : Nat) (M : AM) (x : Int) (N : AM) (h : f_X7_mostHungOn M = some (x, N)) : Ev Y (d + 5) m_X7_mostHungOn 0 [some (vR 63 17 0), some (vR 23 11 0), none, none, none, none, none, none] [] M (some (vI x)) N := by
  unfold f_X7_mostHungOn at h
  refine Z_blk k_X7_mostHungOn 1 (pc' := 1) (lo' := [some (vR 63 17 0), some (vR 23 11 0), none, none, none, none, none, none]) (st' := [vR 23 11 0]) (M1 := M) rfl ?_
  obtain ⟨x1, hx1, h⟩ := Option.bind_eq_some_iff.mp h
  refine Z_callV8 k_X7_mostHungOn k_X1_rungSet rfl rfl (l_7_96) (ci := 1) rfl [] [] rfl rfl (Nat.le_of_ble_eq_true rfl) (Nat.le_of_ble_eq_true rfl) (e_X1_rungSet (d + 0) 23 M _ _ hx1) ?_
  refine Z_blk k_X7_mostHungOn 7 (pc' := 13) (lo' := [some (vR 63 17 0), some (vR 23 11 0), some (vI x1.1), some (vI (-1)), some (vI (-1)), some (vI 0), none, none]) (st' := []) (M1 := x1.2) rfl ?_
  refine Z_mask [true, true, true, true, true, true, false, false] (lo0 := [some (vR 63 17 0), some (vR 23 11 0), some (vI x1.1), some (vI (-1)), some (vI (-1)), some (vI 0), none, none]) rfl ?_
  exact e_X7_mostHungOn_13 d zB x1.1 (-1) (-1) 0 x1.2 _ _ h
def f_X7_toThePower_5 : Nat → Int → Int → Int → Int → AM → Option (Int × AM)
  | 0, _, _, _, _, _ => none
  | n + 1, a0, a1, a2, a4, M => if a1 ≤ a4 then some (a2, M) else f_X7_toThePower_5 n a0 a1 (l_mul a2 a0) (o_add a4 1) M
theorem e_X7_toThePower_5 {Y : List (Nat × Nat)} (d : Nat) : ∀ (n : Nat) (a0 : Int) (a1 : Int) (a2 : Int) (a4 : Int) (M : AM) (x : Int) (N : AM), f_X7_toThePower_5 n a0 a1 a2 a4 M = some (x, N) → Ev Y (d + 0) m_X7_toThePower 5 [some (vI a0), some (vI a1), some (vL a2), none, some (vI a4)] [] M (some (vL x)) N := by
  intro n
  induction n with
  | zero => intro a0 a1 a2 a4 M x N h; cases h
  | succ n ih =>
    intro a0 a1 a2 a4 M x N h
    simp only [f_X7_toThePower_5] at h
    refine Z_blk k_X7_toThePower 2 (pc' := 8) (lo' := [some (vI a0), some (vI a1), some (vL a2), none, some (vI a4)]) (st' := [vI a1, vI a4]) (M1 := M) rfl ?_
    refine Z_icmp k_X7_toThePower rfl 22 rfl (fun hc => ?_) (fun hc => ?_)
    · replace h := of_pos hc h
      refine Z_blk k_X7_toThePower 1 (pc' := 23) (lo' := [some (vI a0), some (vI a1), some (vL a2), none, some (vI a4)]) (st' := [vL a2]) (M1 := M) rfl ?_
      cases h
      exact Z_ret ⟨rfl, _, rfl⟩ rfl
    · replace h := of_neg hc h
      refine Z_blk k_X7_toThePower 7 (pc' := 5) (lo' := [some (vI a0), some (vI a1), some (vL (l_mul a2 a0)), none, some (vI (o_add a4 1))]) (st' := []) (M1 := M) rfl ?_
      refine Z_mask [true, true, true, false, true] (lo0 := [some (vI a0), some (vI a1), some (vL (l_mul a2 a0)), none, some (vI (o_add a4 1))]) rfl ?_
      exact ih a0 a1 (l_mul a2 a0) (o_add a4 1) M _ _ h
def f_X7_toThePower (a0 : Int) (a1 : Int) (M : AM) : Option (Int × AM) := f_X7_toThePower_5 zB a0 a1 1 0 M
theorem e_X7_toThePower {Y : List (Nat × Nat)} (d : Nat) (a0 : Int) (a1 : Int) (M : AM) (x : Int) (N : AM) (h : f_X7_toThePower a0 a1 M = some (x, N)) : Ev Y (d + 0) m_X7_toThePower 0 [some (vI a0), some (vI a1), none, none, none] [] M (some (vL x)) N := by
  unfold f_X7_toThePower at h
  refine Z_blk k_X7_toThePower 4 (pc' := 5) (lo' := [some (vI a0), some (vI a1), some (vL 1), none, some (vI 0)]) (st' := []) (M1 := M) rfl ?_
  refine Z_mask [true, true, true, false, true] (lo0 := [some (vI a0), some (vI a1), some (vL 1), none, some (vI 0)]) rfl ?_
  exact e_X7_toThePower_5 d zB a0 a1 1 0 M _ _ h
theorem l_7_103 : zhas 5155 (Jvm.Cond.methodLink "BellPullHouse$Wiring" 103 yX7_toThePower) = true := by decide +kernel
def f_X7_lastingSixteenths_22 : Nat → Int → Int → Int → Int → Int → AM → Option (Int × AM)
  | 0, _, _, _, _, _, _ => none
  | n + 1, a2, a3, a4, a5, a7, M => if a4 ≤ a7 then some (a5, M) else (if ¬ o_and a7 (o_xor (M 23 7) (-1)) = 0 then f_X7_lastingSixteenths_22 n a2 a3 a4 a5 (o_add a7 1) M else ((f_J6_bitCount_0f7a4 a7 M).bind fun x1 => (f_X7_toThePower (x1.2 23 1) x1.1 x1.2).bind fun x2 => (f_X7_toThePower (o_sub 16 (x2.2 23 1)) (o_sub a3 x1.1) x2.2).bind fun x3 => if l_cmp (l_mul x2.1 x3.1) 0 ≤ 0 then f_X7_lastingSixteenths_22 n a2 a3 a4 a5 (o_add a7 1) x3.2 else (if 0 ≤ a2 ∧ a2 < 6 then ((f_X7_carries (x3.2 27 (Int.toNat a2)) (x3.2 28 (Int.toNat a2)) (o_and (x3.2 23 7) (o_xor a7 (-1))) 0 x3.2).bind fun x5 => if x5.1 = 0 then f_X7_lastingSixteenths_22 n a2 a3 a4 a5 (o_add a7 1) x5.2 else f_X7_lastingSixteenths_22 n a2 a3 a4 (l_add a5 (l_mul x2.1 x3.1)) (o_add a7 1) x5.2) else none)))
theorem e_X7_lastingSixteenths_22 {Y : List (Nat × Nat)} (d : Nat) : ∀ (n : Nat) (a2 : Int) (a3 : Int) (a4 : Int) (a5 : Int) (a7 : Int) (M : AM) (x : Int) (N : AM), f_X7_lastingSixteenths_22 n a2 a3 a4 a5 a7 M = some (x, N) → Ev Y (d + 2) m_X7_lastingSixteenths 22 [some (vR 63 17 0), some (vR 23 11 0), some (vI a2), some (vI a3), some (vI a4), some (vL a5), none, some (vI a7), none, none, none] [] M (some (vL x)) N := by
  intro n
  induction n with
  | zero => intro a2 a3 a4 a5 a7 M x N h; cases h
  | succ n ih =>
    intro a2 a3 a4 a5 a7 M x N h
    simp only [f_X7_lastingSixteenths_22] at h
    refine Z_blk k_X7_lastingSixteenths 2 (pc' := 26) (lo' := [some (vR 63 17 0), some (vR 23 11 0), some (vI a2), some (vI a3), some (vI a4), some (vL a5), none, some (vI a7), none, none, none]) (st' := [vI a4, vI a7]) (M1 := M) rfl ?_
    refine Z_icmp k_X7_lastingSixteenths rfl 124 rfl (fun hc => ?_) (fun hc => ?_)
    · replace h := of_pos hc h
      refine Z_blk k_X7_lastingSixteenths 1 (pc' := 126) (lo' := [some (vR 63 17 0), some (vR 23 11 0), some (vI a2), some (vI a3), some (vI a4), some (vL a5), none, some (vI a7), none, none, none]) (st' := [vL a5]) (M1 := M) rfl ?_
      cases h
      exact Z_ret ⟨rfl, _, rfl⟩ rfl
    · replace h := of_neg hc h
      refine Z_blk k_X7_lastingSixteenths 6 (pc' := 38) (lo' := [some (vR 63 17 0), some (vR 23 11 0), some (vI a2), some (vI a3), some (vI a4), some (vL a5), none, some (vI a7), none, none, none]) (st' := [vI (o_and a7 (o_xor (M 23 7) (-1)))]) (M1 := M) rfl ?_
      refine Z_if k_X7_lastingSixteenths rfl 118 rfl (fun hc => ?_) (fun hc => ?_)
      · replace h := of_pos hc h
        refine Z_blk k_X7_lastingSixteenths 2 (pc' := 22) (lo' := [some (vR 63 17 0), some (vR 23 11 0), some (vI a2), some (vI a3), some (vI a4), some (vL a5), none, some (vI (o_add a7 1)), none, none, none]) (st' := []) (M1 := M) rfl ?_
        refine Z_mask [true, true, true, true, true, true, false, true, false, false, false] (lo0 := [some (vR 63 17 0), some (vR 23 11 0), some (vI a2), some (vI a3), some (vI a4), some (vL a5), none, some (vI (o_add a7 1)), none, none, none]) rfl ?_
        exact ih a2 a3 a4 a5 (o_add a7 1) M _ _ h
      · replace h := of_neg hc h
        refine Z_blk k_X7_lastingSixteenths 1 (pc' := 43) (lo' := [some (vR 63 17 0), some (vR 23 11 0), some (vI a2), some (vI a3), some (vI a4), some (vL a5), none, some (vI a7), none, none, none]) (st' := [vI a7]) (M1 := M) rfl ?_
        obtain ⟨x1, hx1, h⟩ := Option.bind_eq_some_iff.mp h
        refine Z_callS8 k_X7_lastingSixteenths k_J6_bitCount_0f7a4 rfl rfl (l_7_83) [vI a7] [] rfl rfl (Nat.le_of_ble_eq_true rfl) (Nat.le_of_ble_eq_true rfl) (e_J6_bitCount_0f7a4 (d + 1) a7 M _ _ hx1) ?_
        refine Z_blk k_X7_lastingSixteenths 4 (pc' := 54) (lo' := [some (vR 63 17 0), some (vR 23 11 0), some (vI a2), some (vI a3), some (vI a4), some (vL a5), none, some (vI a7), some (vI x1.1), none, none]) (st' := [vI x1.1, vI (x1.2 23 1)]) (M1 := x1.2) rfl ?_
        obtain ⟨x2, hx2, h⟩ := Option.bind_eq_some_iff.mp h
        refine Z_callS8 k_X7_lastingSixteenths k_X7_toThePower rfl rfl (l_7_103) [vI (x1.2 23 1), vI x1.1] [] rfl rfl (Nat.le_of_ble_eq_true rfl) (Nat.le_of_ble_eq_true rfl) (e_X7_toThePower (d + 1) (x1.2 23 1) x1.1 x1.2 _ _ hx2) ?_
        refine Z_blk k_X7_lastingSixteenths 7 (pc' := 68) (lo' := [some (vR 63 17 0), some (vR 23 11 0), some (vI a2), some (vI a3), some (vI a4), some (vL a5), none, some (vI a7), some (vI x1.1), none, none]) (st' := [vI (o_sub a3 x1.1), vI (o_sub 16 (x2.2 23 1)), vL x2.1]) (M1 := x2.2) rfl ?_
        obtain ⟨x3, hx3, h⟩ := Option.bind_eq_some_iff.mp h
        refine Z_callS8 k_X7_lastingSixteenths k_X7_toThePower rfl rfl (l_7_103) [vI (o_sub 16 (x2.2 23 1)), vI (o_sub a3 x1.1)] [vL x2.1] rfl rfl (Nat.le_of_ble_eq_true rfl) (Nat.le_of_ble_eq_true rfl) (e_X7_toThePower (d + 1) (o_sub 16 (x2.2 23 1)) (o_sub a3 x1.1) x2.2 _ _ hx3) ?_
        refine Z_blk k_X7_lastingSixteenths 5 (pc' := 78) (lo' := [some (vR 63 17 0), some (vR 23 11 0), some (vI a2), some (vI a3), some (vI a4), some (vL a5), none, some (vI a7), some (vI x1.1), some (vL (l_mul x2.1 x3.1)), none]) (st' := [vI (l_cmp (l_mul x2.1 x3.1) 0)]) (M1 := x3.2) rfl ?_
        refine Z_if k_X7_lastingSixteenths rfl 118 rfl (fun hc => ?_) (fun hc => ?_)
        · replace h := of_pos hc h
          refine Z_blk k_X7_lastingSixteenths 2 (pc' := 22) (lo' := [some (vR 63 17 0), some (vR 23 11 0), some (vI a2), some (vI a3), some (vI a4), some (vL a5), none, some (vI (o_add a7 1)), some (vI x1.1), some (vL (l_mul x2.1 x3.1)), none]) (st' := []) (M1 := x3.2) rfl ?_
          refine Z_mask [true, true, true, true, true, true, false, true, false, false, false] (lo0 := [some (vR 63 17 0), some (vR 23 11 0), some (vI a2), some (vI a3), some (vI a4), some (vL a5), none, some (vI (o_add a7 1)), none, none, none]) rfl ?_
          exact ih a2 a3 a4 a5 (o_add a7 1) x3.2 _ _ h
        · replace h := of_neg hc h
          refine Z_blk k_X7_lastingSixteenths 5 (pc' := 88) (lo' := [some (vR 63 17 0), some (vR 23 11 0), some (vI a2), some (vI a3), some (vI a4), some (vL a5), none, some (vI a7), some (vI x1.1), some (vL (l_mul x2.1 x3.1)), none]) (st' := [vI a2, vR 27 0 6, vR 23 11 0, vR 63 17 0]) (M1 := x3.2) rfl ?_
          obtain ⟨hc4, h⟩ := of_grd h
          refine Z_one k_X7_lastingSixteenths rfl (pc' := 89) (lo' := [some (vR 63 17 0), some (vR 23 11 0), some (vI a2), some (vI a3), some (vI a4), some (vL a5), none, some (vI a7), some (vI x1.1), some (vL (l_mul x2.1 x3.1)), none]) (st' := [vI (x3.2 27 (Int.toNat a2)), vR 23 11 0, vR 63 17 0]) (M1 := x3.2) (if_pos hc4) ?_
          refine Z_blk k_X7_lastingSixteenths 3 (pc' := 94) (lo' := [some (vR 63 17 0), some (vR 23 11 0), some (vI a2), some (vI a3), some (vI a4), some (vL a5), none, some (vI a7), some (vI x1.1), some (vL (l_mul x2.1 x3.1)), none]) (st' := [vI a2, vR 28 0 6, vI (x3.2 27 (Int.toNat a2)), vR 23 11 0, vR 63 17 0]) (M1 := x3.2) rfl ?_
          refine Z_one k_X7_lastingSixteenths rfl (pc' := 95) (lo' := [some (vR 63 17 0), some (vR 23 11 0), some (vI a2), some (vI a3), some (vI a4), some (vL a5), none, some (vI a7), some (vI x1.1), some (vL (l_mul x2.1 x3.1)), none]) (st' := [vI (x3.2 28 (Int.toNat a2)), vI (x3.2 27 (Int.toNat a2)), vR 23 11 0, vR 63 17 0]) (M1 := x3.2) (if_pos hc4) ?_
          refine Z_blk k_X7_lastingSixteenths 7 (pc' := 105) (lo' := [some (vR 63 17 0), some (vR 23 11 0), some (vI a2), some (vI a3), some (vI a4), some (vL a5), none, some (vI a7), some (vI x1.1), some (vL (l_mul x2.1 x3.1)), none]) (st' := [vI 0, vI (o_and (x3.2 23 7) (o_xor a7 (-1))), vI (x3.2 28 (Int.toNat a2)), vI (x3.2 27 (Int.toNat a2)), vR 23 11 0, vR 63 17 0]) (M1 := x3.2) rfl ?_
          obtain ⟨x5, hx5, h⟩ := Option.bind_eq_some_iff.mp h
          refine Z_callV8 k_X7_lastingSixteenths k_X7_carries rfl rfl (l_7_65) (ci := 7) rfl [vR 23 11 0, vI (x3.2 27 (Int.toNat a2)), vI (x3.2 28 (Int.toNat a2)), vI (o_and (x3.2 23 7) (o_xor a7 (-1))), vI 0] [] rfl rfl (Nat.le_of_ble_eq_true rfl) (Nat.le_of_ble_eq_true rfl) (e_X7_carries (d + 0) (x3.2 27 (Int.toNat a2)) (x3.2 28 (Int.toNat a2)) (o_and (x3.2 23 7) (o_xor a7 (-1))) 0 x3.2 _ _ hx5) ?_
          refine Z_if k_X7_lastingSixteenths rfl 118 rfl (fun hc => ?_) (fun hc => ?_)
          · replace h := of_pos hc h
            refine Z_blk k_X7_lastingSixteenths 2 (pc' := 22) (lo' := [some (vR 63 17 0), some (vR 23 11 0), some (vI a2), some (vI a3), some (vI a4), some (vL a5), none, some (vI (o_add a7 1)), some (vI x1.1), some (vL (l_mul x2.1 x3.1)), none]) (st' := []) (M1 := x5.2) rfl ?_
            refine Z_mask [true, true, true, true, true, true, false, true, false, false, false] (lo0 := [some (vR 63 17 0), some (vR 23 11 0), some (vI a2), some (vI a3), some (vI a4), some (vL a5), none, some (vI (o_add a7 1)), none, none, none]) rfl ?_
            exact ih a2 a3 a4 a5 (o_add a7 1) x5.2 _ _ h
          · replace h := of_neg hc h
            refine Z_blk k_X7_lastingSixteenths 6 (pc' := 22) (lo' := [some (vR 63 17 0), some (vR 23 11 0), some (vI a2), some (vI a3), some (vI a4), some (vL (l_add a5 (l_mul x2.1 x3.1))), none, some (vI (o_add a7 1)), some (vI x1.1), some (vL (l_mul x2.1 x3.1)), none]) (st' := []) (M1 := x5.2) rfl ?_
            refine Z_mask [true, true, true, true, true, true, false, true, false, false, false] (lo0 := [some (vR 63 17 0), some (vR 23 11 0), some (vI a2), some (vI a3), some (vI a4), some (vL (l_add a5 (l_mul x2.1 x3.1))), none, some (vI (o_add a7 1)), none, none, none]) rfl ?_
            exact ih a2 a3 a4 (l_add a5 (l_mul x2.1 x3.1)) (o_add a7 1) x5.2 _ _ h
def f_X7_lastingSixteenths (a2 : Int) (M : AM) : Option (Int × AM) := (f_J6_bitCount_0f7a4 (M 23 7) M).bind fun x1 => f_X7_lastingSixteenths_22 zB a2 x1.1 (o_shl 1 (x1.2 23 3)) 0 0 x1.2
theorem e_X7_lastingSixteenths {Y : List (Nat × Nat)} (d : Nat) (a2 : Int) (M : AM) (x : Int) (N : AM) (h : f_X7_lastingSixteenths a2 M = some (x, N)) : Ev Y (d + 2) m_X7_lastingSixteenths 0 [some (vR 63 17 0), some (vR 23 11 0), some (vI a2), none, none, none, none, none, none, none, none] [] M (some (vL x)) N := by
  unfold f_X7_lastingSixteenths at h
  refine Z_blk k_X7_lastingSixteenths 2 (pc' := 4) (lo' := [some (vR 63 17 0), some (vR 23 11 0), some (vI a2), none, none, none, none, none, none, none, none]) (st' := [vI (M 23 7)]) (M1 := M) rfl ?_
  obtain ⟨x1, hx1, h⟩ := Option.bind_eq_some_iff.mp h
  refine Z_callS8 k_X7_lastingSixteenths k_J6_bitCount_0f7a4 rfl rfl (l_7_83) [vI (M 23 7)] [] rfl rfl (Nat.le_of_ble_eq_true rfl) (Nat.le_of_ble_eq_true rfl) (e_J6_bitCount_0f7a4 (d + 1) (M 23 7) M _ _ hx1) ?_
  refine Z_blk k_X7_lastingSixteenths 10 (pc' := 22) (lo' := [some (vR 63 17 0), some (vR 23 11 0), some (vI a2), some (vI x1.1), some (vI (o_shl 1 (x1.2 23 3))), some (vL 0), none, some (vI 0), none, none, none]) (st' := []) (M1 := x1.2) rfl ?_
  refine Z_mask [true, true, true, true, true, true, false, true, false, false, false] (lo0 := [some (vR 63 17 0), some (vR 23 11 0), some (vI a2), some (vI x1.1), some (vI (o_shl 1 (x1.2 23 3))), some (vL 0), none, some (vI 0), none, none, none]) rfl ?_
  exact e_X7_lastingSixteenths_22 d zB a2 x1.1 (o_shl 1 (x1.2 23 3)) 0 0 x1.2 _ _ h
theorem l_7_107 : zhas 5129 (Jvm.Cond.methodLink "BellPullHouse$Wiring" 107 yX7_countRung) = true := by decide +kernel
theorem l_7_111 : zhas 5133 (Jvm.Cond.methodLink "BellPullHouse$Wiring" 111 yX7_wiremanPlays) = true := by decide +kernel
def f_X7_mousePlays_84 (r_X7_wiremanPlays : Int → Int → Int → Int → Int → AM → Option (Int × AM)) (a2 : Int) (a3 : Int) (a4 : Int) (a5 : Int) (a7 : Int) (M : AM) : Option (Int × AM) := if a7 ≤ a5 then some (a7, M) else ((r_X7_wiremanPlays (o_sub a2 1) a3 a4 a5 a7 M).bind fun x1 => some (o_min a7 x1.1, x1.2))
theorem e_X7_mousePlays_84 {Y : List (Nat × Nat)} (d : Nat) (r_X7_wiremanPlays : Int → Int → Int → Int → Int → AM → Option (Int × AM)) (hr_X7_wiremanPlays : ∀ (a2 : Int) (a3 : Int) (a4 : Int) (a5 : Int) (a6 : Int) (M : AM) (x : Int) (N : AM), r_X7_wiremanPlays a2 a3 a4 a5 a6 M = some (x, N) → Ev Y (d + 2) m_X7_wiremanPlays 0 [some (vR 63 17 0), some (vR 23 11 0), some (vI a2), some (vI a3), some (vI a4), some (vI a5), some (vI a6), none, none, none, none, none] [] M (some (vI x)) N) (a2 : Int) (a3 : Int) (a4 : Int) (a5 : Int) (a7 : Int) (M : AM) (x : Int) (N : AM) (h : f_X7_mousePlays_84 r_X7_wiremanPlays a2 a3 a4 a5 a7 M = some (x, N)) : Ev Y (d + 3) m_X7_mousePlays 84 [some (vR 63 17 0), some (vR 23 11 0), some (vI a2), some (vI a3), some (vI a4), some (vI a5), none, some (vI a7), none, none] [] M (some (vI x)) N := by
  unfold f_X7_mousePlays_84 at h
  refine Z_blk k_X7_mousePlays 2 (pc' := 88) (lo' := [some (vR 63 17 0), some (vR 23 11 0), some (vI a2), some (vI a3), some (vI a4), some (vI a5), none, some (vI a7), none, none]) (st' := [vI a5, vI a7]) (M1 := M) rfl ?_
  refine Z_icmp k_X7_mousePlays rfl 113 rfl (fun hc => ?_) (fun hc => ?_)
  · replace h := of_pos hc h
    refine Z_blk k_X7_mousePlays 1 (pc' := 115) (lo' := [some (vR 63 17 0), some (vR 23 11 0), some (vI a2), some (vI a3), some (vI a4), some (vI a5), none, some (vI a7), none, none]) (st' := [vI a7]) (M1 := M) rfl ?_
    cases h
    exact Z_ret ⟨Or.inl rfl, _, rfl⟩ rfl
  · replace h := of_neg hc h
    refine Z_blk k_X7_mousePlays 10 (pc' := 105) (lo' := [some (vR 63 17 0), some (vR 23 11 0), some (vI a2), some (vI a3), some (vI a4), some (vI a5), none, some (vI a7), none, none]) (st' := [vI a7, vI a5, vI a4, vI a3, vI (o_sub a2 1), vR 23 11 0, vR 63 17 0, vI a7]) (M1 := M) rfl ?_
    obtain ⟨x1, hx1, h⟩ := Option.bind_eq_some_iff.mp h
    refine Z_callV8 k_X7_mousePlays k_X7_wiremanPlays rfl rfl (l_7_111) (ci := 7) rfl [vR 23 11 0, vI (o_sub a2 1), vI a3, vI a4, vI a5, vI a7] [vI a7] rfl rfl (Nat.le_of_ble_eq_true rfl) (Nat.le_of_ble_eq_true rfl) (hr_X7_wiremanPlays (o_sub a2 1) a3 a4 a5 a7 M _ _ hx1) ?_
    refine Z_blk k_X7_mousePlays 3 (pc' := 115) (lo' := [some (vR 63 17 0), some (vR 23 11 0), some (vI a2), some (vI a3), some (vI a4), some (vI a5), none, some (vI (o_min a7 x1.1)), none, none]) (st' := [vI (o_min a7 x1.1)]) (M1 := x1.2) rfl ?_
    cases h
    exact Z_ret ⟨Or.inl rfl, _, rfl⟩ rfl
def f_X7_mousePlays_20 (r_X7_wiremanPlays : Int → Int → Int → Int → Int → AM → Option (Int × AM)) : Nat → Int → Int → Int → Int → Int → Int → AM → Option (Int × AM)
  | 0, _, _, _, _, _, _, _ => none
  | n + 1, a2, a3, a4, a5, a7, a8, M => if M 23 3 ≤ a8 then f_X7_mousePlays_84 r_X7_wiremanPlays a2 a3 a4 a5 a7 M else (if a7 ≤ a5 then f_X7_mousePlays_84 r_X7_wiremanPlays a2 a3 a4 a5 a7 M else (if o_and (o_shr a3 a8) 1 = 0 then f_X7_mousePlays_20 r_X7_wiremanPlays n a2 a3 a4 a5 a7 (o_add a8 1) M else ((r_X7_wiremanPlays (o_sub a2 1) (o_and a3 (o_xor (o_shl 1 a8) (-1))) a4 a5 a7 M).bind fun x1 => f_X7_mousePlays_20 r_X7_wiremanPlays n a2 a3 a4 a5 (o_min a7 x1.1) (o_add a8 1) x1.2)))
theorem e_X7_mousePlays_20 {Y : List (Nat × Nat)} (d : Nat) (r_X7_wiremanPlays : Int → Int → Int → Int → Int → AM → Option (Int × AM)) (hr_X7_wiremanPlays : ∀ (a2 : Int) (a3 : Int) (a4 : Int) (a5 : Int) (a6 : Int) (M : AM) (x : Int) (N : AM), r_X7_wiremanPlays a2 a3 a4 a5 a6 M = some (x, N) → Ev Y (d + 2) m_X7_wiremanPlays 0 [some (vR 63 17 0), some (vR 23 11 0), some (vI a2), some (vI a3), some (vI a4), some (vI a5), some (vI a6), none, none, none, none, none] [] M (some (vI x)) N) : ∀ (n : Nat) (a2 : Int) (a3 : Int) (a4 : Int) (a5 : Int) (a7 : Int) (a8 : Int) (M : AM) (x : Int) (N : AM), f_X7_mousePlays_20 r_X7_wiremanPlays n a2 a3 a4 a5 a7 a8 M = some (x, N) → Ev Y (d + 3) m_X7_mousePlays 20 [some (vR 63 17 0), some (vR 23 11 0), some (vI a2), some (vI a3), some (vI a4), some (vI a5), none, some (vI a7), some (vI a8), none] [] M (some (vI x)) N := by
  intro n
  induction n with
  | zero => intro a2 a3 a4 a5 a7 a8 M x N h; cases h
  | succ n ih =>
    intro a2 a3 a4 a5 a7 a8 M x N h
    simp only [f_X7_mousePlays_20] at h
    refine Z_blk k_X7_mousePlays 3 (pc' := 26) (lo' := [some (vR 63 17 0), some (vR 23 11 0), some (vI a2), some (vI a3), some (vI a4), some (vI a5), none, some (vI a7), some (vI a8), none]) (st' := [vI (M 23 3), vI a8]) (M1 := M) rfl ?_
    refine Z_icmp k_X7_mousePlays rfl 84 rfl (fun hc => ?_) (fun hc => ?_)
    · replace h := of_pos hc h
      refine Z_mask [true, true, true, true, true, true, false, true, false, false] (lo0 := [some (vR 63 17 0), some (vR 23 11 0), some (vI a2), some (vI a3), some (vI a4), some (vI a5), none, some (vI a7), none, none]) rfl ?_
      exact e_X7_mousePlays_84 d r_X7_wiremanPlays hr_X7_wiremanPlays a2 a3 a4 a5 a7 M _ _ h
    · replace h := of_neg hc h
      refine Z_blk k_X7_mousePlays 2 (pc' := 33) (lo' := [some (vR 63 17 0), some (vR 23 11 0), some (vI a2), some (vI a3), some (vI a4), some (vI a5), none, some (vI a7), some (vI a8), none]) (st' := [vI a5, vI a7]) (M1 := M) rfl ?_
      refine Z_icmp k_X7_mousePlays rfl 84 rfl (fun hc => ?_) (fun hc => ?_)
      · replace h := of_pos hc h
        refine Z_mask [true, true, true, true, true, true, false, true, false, false] (lo0 := [some (vR 63 17 0), some (vR 23 11 0), some (vI a2), some (vI a3), some (vI a4), some (vI a5), none, some (vI a7), none, none]) rfl ?_
        exact e_X7_mousePlays_84 d r_X7_wiremanPlays hr_X7_wiremanPlays a2 a3 a4 a5 a7 M _ _ h
      · replace h := of_neg hc h
        refine Z_blk k_X7_mousePlays 5 (pc' := 42) (lo' := [some (vR 63 17 0), some (vR 23 11 0), some (vI a2), some (vI a3), some (vI a4), some (vI a5), none, some (vI a7), some (vI a8), none]) (st' := [vI (o_and (o_shr a3 a8) 1)]) (M1 := M) rfl ?_
        refine Z_if k_X7_mousePlays rfl 78 rfl (fun hc => ?_) (fun hc => ?_)
        · replace h := of_pos hc h
          refine Z_blk k_X7_mousePlays 2 (pc' := 20) (lo' := [some (vR 63 17 0), some (vR 23 11 0), some (vI a2), some (vI a3), some (vI a4), some (vI a5), none, some (vI a7), some (vI (o_add a8 1)), none]) (st' := []) (M1 := M) rfl ?_
          refine Z_mask [true, true, true, true, true, true, false, true, true, false] (lo0 := [some (vR 63 17 0), some (vR 23 11 0), some (vI a2), some (vI a3), some (vI a4), some (vI a5), none, some (vI a7), some (vI (o_add a8 1)), none]) rfl ?_
          exact ih a2 a3 a4 a5 a7 (o_add a8 1) M _ _ h
        · replace h := of_neg hc h
          refine Z_blk k_X7_mousePlays 18 (pc' := 70) (lo' := [some (vR 63 17 0), some (vR 23 11 0), some (vI a2), some (vI a3), some (vI a4), some (vI a5), none, some (vI a7), some (vI a8), some (vI (o_and a3 (o_xor (o_shl 1 a8) (-1))))]) (st' := [vI a7, vI a5, vI a4, vI (o_and a3 (o_xor (o_shl 1 a8) (-1))), vI (o_sub a2 1), vR 23 11 0, vR 63 17 0, vI a7]) (M1 := M) rfl ?_
          obtain ⟨x1, hx1, h⟩ := Option.bind_eq_some_iff.mp h
          refine Z_callV8 k_X7_mousePlays k_X7_wiremanPlays rfl rfl (l_7_111) (ci := 7) rfl [vR 23 11 0, vI (o_sub a2 1), vI (o_and a3 (o_xor (o_shl 1 a8) (-1))), vI a4, vI a5, vI a7] [vI a7] rfl rfl (Nat.le_of_ble_eq_true rfl) (Nat.le_of_ble_eq_true rfl) (hr_X7_wiremanPlays (o_sub a2 1) (o_and a3 (o_xor (o_shl 1 a8) (-1))) a4 a5 a7 M _ _ hx1) ?_
          refine Z_blk k_X7_mousePlays 4 (pc' := 20) (lo' := [some (vR 63 17 0), some (vR 23 11 0), some (vI a2), some (vI a3), some (vI a4), some (vI a5), none, some (vI (o_min a7 x1.1)), some (vI (o_add a8 1)), some (vI (o_and a3 (o_xor (o_shl 1 a8) (-1))))]) (st' := []) (M1 := x1.2) rfl ?_
          refine Z_mask [true, true, true, true, true, true, false, true, true, false] (lo0 := [some (vR 63 17 0), some (vR 23 11 0), some (vI a2), some (vI a3), some (vI a4), some (vI a5), none, some (vI (o_min a7 x1.1)), some (vI (o_add a8 1)), none]) rfl ?_
          exact ih a2 a3 a4 a5 (o_min a7 x1.1) (o_add a8 1) x1.2 _ _ h
def fo_X7_mousePlays (r_X7_wiremanPlays : Int → Int → Int → Int → Int → AM → Option (Int × AM)) (a2 : Int) (a3 : Int) (a4 : Int) (a5 : Int) (a6 : Int) (M : AM) : Option (Int × AM) := if 0 < a2 then f_X7_mousePlays_20 r_X7_wiremanPlays zB a2 a3 a4 a5 a6 0 M else ((f_X7_countRung a3 a4 M).bind fun x1 => some (x1.1, x1.2))
theorem eo_X7_mousePlays {Y : List (Nat × Nat)} (d : Nat) (r_X7_wiremanPlays : Int → Int → Int → Int → Int → AM → Option (Int × AM)) (hr_X7_wiremanPlays : ∀ (a2 : Int) (a3 : Int) (a4 : Int) (a5 : Int) (a6 : Int) (M : AM) (x : Int) (N : AM), r_X7_wiremanPlays a2 a3 a4 a5 a6 M = some (x, N) → Ev Y (d + 2) m_X7_wiremanPlays 0 [some (vR 63 17 0), some (vR 23 11 0), some (vI a2), some (vI a3), some (vI a4), some (vI a5), some (vI a6), none, none, none, none, none] [] M (some (vI x)) N) (a2 : Int) (a3 : Int) (a4 : Int) (a5 : Int) (a6 : Int) (M : AM) (x : Int) (N : AM) (h : fo_X7_mousePlays r_X7_wiremanPlays a2 a3 a4 a5 a6 M = some (x, N)) : Ev Y (d + 3) m_X7_mousePlays 0 [some (vR 63 17 0), some (vR 23 11 0), some (vI a2), some (vI a3), some (vI a4), some (vI a5), some (vI a6), none, none, none] [] M (some (vI x)) N := by
  unfold fo_X7_mousePlays at h
  refine Z_blk k_X7_mousePlays 1 (pc' := 1) (lo' := [some (vR 63 17 0), some (vR 23 11 0), some (vI a2), some (vI a3), some (vI a4), some (vI a5), some (vI a6), none, none, none]) (st' := [vI a2]) (M1 := M) rfl ?_
  refine Z_if k_X7_mousePlays rfl 13 rfl (fun hc => ?_) (fun hc => ?_)
  · replace h := of_pos hc h
    refine Z_blk k_X7_mousePlays 4 (pc' := 20) (lo' := [some (vR 63 17 0), some (vR 23 11 0), some (vI a2), some (vI a3), some (vI a4), some (vI a5), some (vI a6), some (vI a6), some (vI 0), none]) (st' := []) (M1 := M) rfl ?_
    refine Z_mask [true, true, true, true, true, true, false, true, true, false] (lo0 := [some (vR 63 17 0), some (vR 23 11 0), some (vI a2), some (vI a3), some (vI a4), some (vI a5), none, some (vI a6), some (vI 0), none]) rfl ?_
    exact e_X7_mousePlays_20 d r_X7_wiremanPlays hr_X7_wiremanPlays zB a2 a3 a4 a5 a6 0 M _ _ h
  · replace h := of_neg hc h
    refine Z_blk k_X7_mousePlays 4 (pc' := 9) (lo' := [some (vR 63 17 0), some (vR 23 11 0), some (vI a2), some (vI a3), some (vI a4), some (vI a5), some (vI a6), none, none, none]) (st' := [vI a4, vI a3, vR 23 11 0, vR 63 17 0]) (M1 := M) rfl ?_
    obtain ⟨x1, hx1, h⟩ := Option.bind_eq_some_iff.mp h
    refine Z_callV8 k_X7_mousePlays k_X7_countRung rfl rfl (l_7_107) (ci := 7) rfl [vR 23 11 0, vI a3, vI a4] [] rfl rfl (Nat.le_of_ble_eq_true rfl) (Nat.le_of_ble_eq_true rfl) (e_X7_countRung (d + 0) a3 a4 M _ _ hx1) ?_
    cases h
    exact Z_ret ⟨Or.inl rfl, _, rfl⟩ rfl
theorem l_7_121 : zhas 5137 (Jvm.Cond.methodLink "BellPullHouse$Wiring" 121 yX7_mousePlays) = true := by decide +kernel
def f_X7_wiremanPlays_79 (r_X7_mousePlays : Int → Int → Int → Int → Int → AM → Option (Int × AM)) (k_20 : Int → Int → Int → Int → Int → Int → AM → Option (Int × AM)) (a2 : Int) (a3 : Int) (a4 : Int) (a6 : Int) (a7 : Int) (a8 : Int) (a9 : Int) (M : AM) : Option (Int × AM) := (r_X7_mousePlays (o_sub a2 1) (o_or a3 a9) (o_or a4 a9) a7 a6 M).bind fun x1 => k_20 a2 a3 a4 a6 (o_max a7 x1.1) (o_add a8 1) x1.2
theorem e_X7_wiremanPlays_79 {Y : List (Nat × Nat)} (d : Nat) (r_X7_mousePlays : Int → Int → Int → Int → Int → AM → Option (Int × AM)) (k_20 : Int → Int → Int → Int → Int → Int → AM → Option (Int × AM)) (hr_X7_mousePlays : ∀ (a2 : Int) (a3 : Int) (a4 : Int) (a5 : Int) (a6 : Int) (M : AM) (x : Int) (N : AM), r_X7_mousePlays a2 a3 a4 a5 a6 M = some (x, N) → Ev Y (d + 2) m_X7_mousePlays 0 [some (vR 63 17 0), some (vR 23 11 0), some (vI a2), some (vI a3), some (vI a4), some (vI a5), some (vI a6), none, none, none] [] M (some (vI x)) N) (hk_20 : ∀ (a2 : Int) (a3 : Int) (a4 : Int) (a6 : Int) (a7 : Int) (a8 : Int) (M : AM) (x : Int) (N : AM), k_20 a2 a3 a4 a6 a7 a8 M = some (x, N) → Ev Y (d + 3) m_X7_wiremanPlays 20 [some (vR 63 17 0), some (vR 23 11 0), some (vI a2), some (vI a3), some (vI a4), none, some (vI a6), some (vI a7), some (vI a8), none, none, none] [] M (some (vI x)) N) (a2 : Int) (a3 : Int) (a4 : Int) (a6 : Int) (a7 : Int) (a8 : Int) (a9 : Int) (M : AM) (x : Int) (N : AM) (h : f_X7_wiremanPlays_79 r_X7_mousePlays k_20 a2 a3 a4 a6 a7 a8 a9 M = some (x, N)) : Ev Y (d + 3) m_X7_wiremanPlays 79 [some (vR 63 17 0), some (vR 23 11 0), some (vI a2), some (vI a3), some (vI a4), none, some (vI a6), some (vI a7), some (vI a8), some (vI a9), none, none] [] M (some (vI x)) N := by
  unfold f_X7_wiremanPlays_79 at h
  refine Z_blk k_X7_wiremanPlays 13 (pc' := 97) (lo' := [some (vR 63 17 0), some (vR 23 11 0), some (vI a2), some (vI a3), some (vI a4), none, some (vI a6), some (vI a7), some (vI a8), some (vI a9), none, none]) (st' := [vI a6, vI a7, vI (o_or a4 a9), vI (o_or a3 a9), vI (o_sub a2 1), vR 23 11 0, vR 63 17 0]) (M1 := M) rfl ?_
  obtain ⟨x1, hx1, h⟩ := Option.bind_eq_some_iff.mp h
  refine Z_callV8 k_X7_wiremanPlays k_X7_mousePlays rfl rfl (l_7_121) (ci := 7) rfl [vR 23 11 0, vI (o_sub a2 1), vI (o_or a3 a9), vI (o_or a4 a9), vI a7, vI a6] [] rfl rfl (Nat.le_of_ble_eq_true rfl) (Nat.le_of_ble_eq_true rfl) (hr_X7_mousePlays (o_sub a2 1) (o_or a3 a9) (o_or a4 a9) a7 a6 M _ _ hx1) ?_
  refine Z_blk k_X7_wiremanPlays 7 (pc' := 20) (lo' := [some (vR 63 17 0), some (vR 23 11 0), some (vI a2), some (vI a3), some (vI a4), none, some (vI a6), some (vI (o_max a7 x1.1)), some (vI (o_add a8 1)), some (vI a9), none, some (vI x1.1)]) (st' := []) (M1 := x1.2) rfl ?_
  refine Z_mask [true, true, true, true, true, false, true, true, true, false, false, false] (lo0 := [some (vR 63 17 0), some (vR 23 11 0), some (vI a2), some (vI a3), some (vI a4), none, some (vI a6), some (vI (o_max a7 x1.1)), some (vI (o_add a8 1)), none, none, none]) rfl ?_
  exact hk_20 a2 a3 a4 a6 (o_max a7 x1.1) (o_add a8 1) x1.2 _ _ h
def f_X7_wiremanPlays_65 (r_X7_mousePlays : Int → Int → Int → Int → Int → AM → Option (Int × AM)) (k_20 : Int → Int → Int → Int → Int → Int → AM → Option (Int × AM)) (a2 : Int) (a3 : Int) (a4 : Int) (a6 : Int) (a7 : Int) (a8 : Int) (a9 : Int) (s0 : Int) (M : AM) : Option (Int × AM) := if o_and a3 a9 = 0 then f_X7_wiremanPlays_79 r_X7_mousePlays k_20 a2 a3 a4 a6 a7 a8 a9 M else (if ¬ s0 = 0 then k_20 a2 a3 a4 a6 a7 (o_add a8 1) M else f_X7_wiremanPlays_79 r_X7_mousePlays k_20 a2 a3 a4 a6 a7 a8 a9 M)
theorem e_X7_wiremanPlays_65 {Y : List (Nat × Nat)} (d : Nat) (r_X7_mousePlays : Int → Int → Int → Int → Int → AM → Option (Int × AM)) (k_20 : Int → Int → Int → Int → Int → Int → AM → Option (Int × AM)) (hr_X7_mousePlays : ∀ (a2 : Int) (a3 : Int) (a4 : Int) (a5 : Int) (a6 : Int) (M : AM) (x : Int) (N : AM), r_X7_mousePlays a2 a3 a4 a5 a6 M = some (x, N) → Ev Y (d + 2) m_X7_mousePlays 0 [some (vR 63 17 0), some (vR 23 11 0), some (vI a2), some (vI a3), some (vI a4), some (vI a5), some (vI a6), none, none, none] [] M (some (vI x)) N) (hk_20 : ∀ (a2 : Int) (a3 : Int) (a4 : Int) (a6 : Int) (a7 : Int) (a8 : Int) (M : AM) (x : Int) (N : AM), k_20 a2 a3 a4 a6 a7 a8 M = some (x, N) → Ev Y (d + 3) m_X7_wiremanPlays 20 [some (vR 63 17 0), some (vR 23 11 0), some (vI a2), some (vI a3), some (vI a4), none, some (vI a6), some (vI a7), some (vI a8), none, none, none] [] M (some (vI x)) N) (a2 : Int) (a3 : Int) (a4 : Int) (a6 : Int) (a7 : Int) (a8 : Int) (a9 : Int) (s0 : Int) (M : AM) (x : Int) (N : AM) (h : f_X7_wiremanPlays_65 r_X7_mousePlays k_20 a2 a3 a4 a6 a7 a8 a9 s0 M = some (x, N)) : Ev Y (d + 3) m_X7_wiremanPlays 65 [some (vR 63 17 0), some (vR 23 11 0), some (vI a2), some (vI a3), some (vI a4), none, some (vI a6), some (vI a7), some (vI a8), some (vI a9), none, none] [vI s0] M (some (vI x)) N := by
  unfold f_X7_wiremanPlays_65 at h
  refine Z_blk k_X7_wiremanPlays 4 (pc' := 71) (lo' := [some (vR 63 17 0), some (vR 23 11 0), some (vI a2), some (vI a3), some (vI a4), none, some (vI a6), some (vI a7), some (vI a8), some (vI a9), some (vI s0), none]) (st' := [vI (o_and a3 a9)]) (M1 := M) rfl ?_
  refine Z_if k_X7_wiremanPlays rfl 79 rfl (fun hc => ?_) (fun hc => ?_)
  · replace h := of_pos hc h
    refine Z_mask [true, true, true, true, true, false, true, true, true, true, false, false] (lo0 := [some (vR 63 17 0), some (vR 23 11 0), some (vI a2), some (vI a3), some (vI a4), none, some (vI a6), some (vI a7), some (vI a8), some (vI a9), none, none]) rfl ?_
    exact e_X7_wiremanPlays_79 d r_X7_mousePlays k_20 hr_X7_mousePlays hk_20 a2 a3 a4 a6 a7 a8 a9 M _ _ h
  · replace h := of_neg hc h
    refine Z_blk k_X7_wiremanPlays 1 (pc' := 76) (lo' := [some (vR 63 17 0), some (vR 23 11 0), some (vI a2), some (vI a3), some (vI a4), none, some (vI a6), some (vI a7), some (vI a8), some (vI a9), some (vI s0), none]) (st' := [vI s0]) (M1 := M) rfl ?_
    refine Z_if k_X7_wiremanPlays rfl 111 rfl (fun hc => ?_) (fun hc => ?_)
    · replace h := of_pos hc h
      refine Z_blk k_X7_wiremanPlays 2 (pc' := 20) (lo' := [some (vR 63 17 0), some (vR 23 11 0), some (vI a2), some (vI a3), some (vI a4), none, some (vI a6), some (vI a7), some (vI (o_add a8 1)), some (vI a9), some (vI s0), none]) (st' := []) (M1 := M) rfl ?_
      refine Z_mask [true, true, true, true, true, false, true, true, true, false, false, false] (lo0 := [some (vR 63 17 0), some (vR 23 11 0), some (vI a2), some (vI a3), some (vI a4), none, some (vI a6), some (vI a7), some (vI (o_add a8 1)), none, none, none]) rfl ?_
      exact hk_20 a2 a3 a4 a6 a7 (o_add a8 1) M _ _ h
    · replace h := of_neg hc h
      refine Z_mask [true, true, true, true, true, false, true, true, true, true, false, false] (lo0 := [some (vR 63 17 0), some (vR 23 11 0), some (vI a2), some (vI a3), some (vI a4), none, some (vI a6), some (vI a7), some (vI a8), some (vI a9), none, none]) rfl ?_
      exact e_X7_wiremanPlays_79 d r_X7_mousePlays k_20 hr_X7_mousePlays hk_20 a2 a3 a4 a6 a7 a8 a9 M _ _ h
def f_X7_wiremanPlays_117 (r_X7_mousePlays : Int → Int → Int → Int → Int → AM → Option (Int × AM)) (a2 : Int) (a3 : Int) (a4 : Int) (a6 : Int) (a7 : Int) (M : AM) : Option (Int × AM) := if a6 ≤ a7 then some (a7, M) else ((r_X7_mousePlays (o_sub a2 1) a3 a4 a7 a6 M).bind fun x1 => some (o_max a7 x1.1, x1.2))
theorem e_X7_wiremanPlays_117 {Y : List (Nat × Nat)} (d : Nat) (r_X7_mousePlays : Int → Int → Int → Int → Int → AM → Option (Int × AM)) (hr_X7_mousePlays : ∀ (a2 : Int) (a3 : Int) (a4 : Int) (a5 : Int) (a6 : Int) (M : AM) (x : Int) (N : AM), r_X7_mousePlays a2 a3 a4 a5 a6 M = some (x, N) → Ev Y (d + 2) m_X7_mousePlays 0 [some (vR 63 17 0), some (vR 23 11 0), some (vI a2), some (vI a3), some (vI a4), some (vI a5), some (vI a6), none, none, none] [] M (some (vI x)) N) (a2 : Int) (a3 : Int) (a4 : Int) (a6 : Int) (a7 : Int) (M : AM) (x : Int) (N : AM) (h : f_X7_wiremanPlays_117 r_X7_mousePlays a2 a3 a4 a6 a7 M = some (x, N)) : Ev Y (d + 3) m_X7_wiremanPlays 117 [some (vR 63 17 0), some (vR 23 11 0), some (vI a2), some (vI a3), some (vI a4), none, some (vI a6), some (vI a7), none, none, none, none] [] M (some (vI x)) N := by
  unfold f_X7_wiremanPlays_117 at h
  refine Z_blk k_X7_wiremanPlays 2 (pc' := 121) (lo' := [some (vR 63 17 0), some (vR 23 11 0), some (vI a2), some (vI a3), some (vI a4), none, some (vI a6), some (vI a7), none, none, none, none]) (st' := [vI a6, vI a7]) (M1 := M) rfl ?_
  refine Z_icmp k_X7_wiremanPlays rfl 146 rfl (fun hc => ?_) (fun hc => ?_)
  · replace h := of_pos hc h
    refine Z_blk k_X7_wiremanPlays 1 (pc' := 148) (lo' := [some (vR 63 17 0), some (vR 23 11 0), some (vI a2), some (vI a3), some (vI a4), none, some (vI a6), some (vI a7), none, none, none, none]) (st' := [vI a7]) (M1 := M) rfl ?_
    cases h
    exact Z_ret ⟨Or.inl rfl, _, rfl⟩ rfl
  · replace h := of_neg hc h
    refine Z_blk k_X7_wiremanPlays 10 (pc' := 138) (lo' := [some (vR 63 17 0), some (vR 23 11 0), some (vI a2), some (vI a3), some (vI a4), none, some (vI a6), some (vI a7), none, none, none, none]) (st' := [vI a6, vI a7, vI a4, vI a3, vI (o_sub a2 1), vR 23 11 0, vR 63 17 0, vI a7]) (M1 := M) rfl ?_
    obtain ⟨x1, hx1, h⟩ := Option.bind_eq_some_iff.mp h
    refine Z_callV8 k_X7_wiremanPlays k_X7_mousePlays rfl rfl (l_7_121) (ci := 7) rfl [vR 23 11 0, vI (o_sub a2 1), vI a3, vI a4, vI a7, vI a6] [vI a7] rfl rfl (Nat.le_of_ble_eq_true rfl) (Nat.le_of_ble_eq_true rfl) (hr_X7_mousePlays (o_sub a2 1) a3 a4 a7 a6 M _ _ hx1) ?_
    refine Z_blk k_X7_wiremanPlays 3 (pc' := 148) (lo' := [some (vR 63 17 0), some (vR 23 11 0), some (vI a2), some (vI a3), some (vI a4), none, some (vI a6), some (vI (o_max a7 x1.1)), none, none, none, none]) (st' := [vI (o_max a7 x1.1)]) (M1 := x1.2) rfl ?_
    cases h
    exact Z_ret ⟨Or.inl rfl, _, rfl⟩ rfl
def f_X7_wiremanPlays_20 (r_X7_mousePlays : Int → Int → Int → Int → Int → AM → Option (Int × AM)) : Nat → Int → Int → Int → Int → Int → Int → AM → Option (Int × AM)
  | 0, _, _, _, _, _, _, _ => none
  | n + 1, a2, a3, a4, a6, a7, a8, M => if M 23 3 ≤ a8 then f_X7_wiremanPlays_117 r_X7_mousePlays a2 a3 a4 a6 a7 M else (if a6 ≤ a7 then f_X7_wiremanPlays_117 r_X7_mousePlays a2 a3 a4 a6 a7 M else (if ¬ o_and a4 (o_shl 1 a8) = 0 then f_X7_wiremanPlays_65 r_X7_mousePlays (f_X7_wiremanPlays_20 r_X7_mousePlays n) a2 a3 a4 a6 a7 a8 (o_shl 1 a8) 1 M else (if 0 ≤ a8 ∧ a8 < 10 then (if ¬ M 26 (Int.toNat a8) = 0 then f_X7_wiremanPlays_65 r_X7_mousePlays (f_X7_wiremanPlays_20 r_X7_mousePlays n) a2 a3 a4 a6 a7 a8 (o_shl 1 a8) 0 M else f_X7_wiremanPlays_65 r_X7_mousePlays (f_X7_wiremanPlays_20 r_X7_mousePlays n) a2 a3 a4 a6 a7 a8 (o_shl 1 a8) 1 M) else none)))
theorem e_X7_wiremanPlays_20 {Y : List (Nat × Nat)} (d : Nat) (r_X7_mousePlays : Int → Int → Int → Int → Int → AM → Option (Int × AM)) (hr_X7_mousePlays : ∀ (a2 : Int) (a3 : Int) (a4 : Int) (a5 : Int) (a6 : Int) (M : AM) (x : Int) (N : AM), r_X7_mousePlays a2 a3 a4 a5 a6 M = some (x, N) → Ev Y (d + 2) m_X7_mousePlays 0 [some (vR 63 17 0), some (vR 23 11 0), some (vI a2), some (vI a3), some (vI a4), some (vI a5), some (vI a6), none, none, none] [] M (some (vI x)) N) : ∀ (n : Nat) (a2 : Int) (a3 : Int) (a4 : Int) (a6 : Int) (a7 : Int) (a8 : Int) (M : AM) (x : Int) (N : AM), f_X7_wiremanPlays_20 r_X7_mousePlays n a2 a3 a4 a6 a7 a8 M = some (x, N) → Ev Y (d + 3) m_X7_wiremanPlays 20 [some (vR 63 17 0), some (vR 23 11 0), some (vI a2), some (vI a3), some (vI a4), none, some (vI a6), some (vI a7), some (vI a8), none, none, none] [] M (some (vI x)) N := by
  intro n
  induction n with
  | zero => intro a2 a3 a4 a6 a7 a8 M x N h; cases h
  | succ n ih =>
    intro a2 a3 a4 a6 a7 a8 M x N h
    simp only [f_X7_wiremanPlays_20] at h
    refine Z_blk k_X7_wiremanPlays 3 (pc' := 26) (lo' := [some (vR 63 17 0), some (vR 23 11 0), some (vI a2), some (vI a3), some (vI a4), none, some (vI a6), some (vI a7), some (vI a8), none, none, none]) (st' := [vI (M 23 3), vI a8]) (M1 := M) rfl ?_
    refine Z_icmp k_X7_wiremanPlays rfl 117 rfl (fun hc => ?_) (fun hc => ?_)
    · replace h := of_pos hc h
      refine Z_mask [true, true, true, true, true, false, true, true, false, false, false, false] (lo0 := [some (vR 63 17 0), some (vR 23 11 0), some (vI a2), some (vI a3), some (vI a4), none, some (vI a6), some (vI a7), none, none, none, none]) rfl ?_
      exact e_X7_wiremanPlays_117 d r_X7_mousePlays hr_X7_mousePlays a2 a3 a4 a6 a7 M _ _ h
    · replace h := of_neg hc h
      refine Z_blk k_X7_wiremanPlays 2 (pc' := 33) (lo' := [some (vR 63 17 0), some (vR 23 11 0), some (vI a2), some (vI a3), some (vI a4), none, some (vI a6), some (vI a7), some (vI a8), none, none, none]) (st' := [vI a6, vI a7]) (M1 := M) rfl ?_
      refine Z_icmp k_X7_wiremanPlays rfl 117 rfl (fun hc => ?_) (fun hc => ?_)
      · replace h := of_pos hc h
        refine Z_mask [true, true, true, true, true, false, true, true, false, false, false, false] (lo0 := [some (vR 63 17 0), some (vR 23 11 0), some (vI a2), some (vI a3), some (vI a4), none, some (vI a6), some (vI a7), none, none, none, none]) rfl ?_
        exact e_X7_wiremanPlays_117 d r_X7_mousePlays hr_X7_mousePlays a2 a3 a4 a6 a7 M _ _ h
      · replace h := of_neg hc h
        refine Z_blk k_X7_wiremanPlays 7 (pc' := 47) (lo' := [some (vR 63 17 0), some (vR 23 11 0), some (vI a2), some (vI a3), some (vI a4), none, some (vI a6), some (vI a7), some (vI a8), some (vI (o_shl 1 a8)), none, none]) (st' := [vI (o_and a4 (o_shl 1 a8))]) (M1 := M) rfl ?_
        refine Z_if k_X7_wiremanPlays rfl 60 rfl (fun hc => ?_) (fun hc => ?_)
        · replace h := of_pos hc h
          refine Z_blk k_X7_wiremanPlays 2 (pc' := 65) (lo' := [some (vR 63 17 0), some (vR 23 11 0), some (vI a2), some (vI a3), some (vI a4), none, some (vI a6), some (vI a7), some (vI a8), some (vI (o_shl 1 a8)), none, none]) (st' := [vI 1]) (M1 := M) rfl ?_
          refine Z_mask [true, true, true, true, true, false, true, true, true, true, false, false] (lo0 := [some (vR 63 17 0), some (vR 23 11 0), some (vI a2), some (vI a3), some (vI a4), none, some (vI a6), some (vI a7), some (vI a8), some (vI (o_shl 1 a8)), none, none]) rfl ?_
          exact e_X7_wiremanPlays_65 d r_X7_mousePlays (f_X7_wiremanPlays_20 r_X7_mousePlays n) hr_X7_mousePlays ih a2 a3 a4 a6 a7 a8 (o_shl 1 a8) 1 M _ _ h
        · replace h := of_neg hc h
          refine Z_blk k_X7_wiremanPlays 3 (pc' := 56) (lo' := [some (vR 63 17 0), some (vR 23 11 0), some (vI a2), some (vI a3), some (vI a4), none, some (vI a6), some (vI a7), some (vI a8), some (vI (o_shl 1 a8)), none, none]) (st' := [vI a8, vR 26 0 10]) (M1 := M) rfl ?_
          obtain ⟨hc1, h⟩ := of_grd h
          refine Z_one k_X7_wiremanPlays rfl (pc' := 57) (lo' := [some (vR 63 17 0), some (vR 23 11 0), some (vI a2), some (vI a3), some (vI a4), none, some (vI a6), some (vI a7), some (vI a8), some (vI (o_shl 1 a8)), none, none]) (st' := [vI (M 26 (Int.toNat a8))]) (M1 := M) (if_pos hc1) ?_
          refine Z_if k_X7_wiremanPlays rfl 64 rfl (fun hc => ?_) (fun hc => ?_)
          · replace h := of_pos hc h
            refine Z_blk k_X7_wiremanPlays 1 (pc' := 65) (lo' := [some (vR 63 17 0), some (vR 23 11 0), some (vI a2), some (vI a3), some (vI a4), none, some (vI a6), some (vI a7), some (vI a8), some (vI (o_shl 1 a8)), none, none]) (st' := [vI 0]) (M1 := M) rfl ?_
            refine Z_mask [true, true, true, true, true, false, true, true, true, true, false, false] (lo0 := [some (vR 63 17 0), some (vR 23 11 0), some (vI a2), some (vI a3), some (vI a4), none, some (vI a6), some (vI a7), some (vI a8), some (vI (o_shl 1 a8)), none, none]) rfl ?_
            exact e_X7_wiremanPlays_65 d r_X7_mousePlays (f_X7_wiremanPlays_20 r_X7_mousePlays n) hr_X7_mousePlays ih a2 a3 a4 a6 a7 a8 (o_shl 1 a8) 0 M _ _ h
          · replace h := of_neg hc h
            refine Z_blk k_X7_wiremanPlays 2 (pc' := 65) (lo' := [some (vR 63 17 0), some (vR 23 11 0), some (vI a2), some (vI a3), some (vI a4), none, some (vI a6), some (vI a7), some (vI a8), some (vI (o_shl 1 a8)), none, none]) (st' := [vI 1]) (M1 := M) rfl ?_
            refine Z_mask [true, true, true, true, true, false, true, true, true, true, false, false] (lo0 := [some (vR 63 17 0), some (vR 23 11 0), some (vI a2), some (vI a3), some (vI a4), none, some (vI a6), some (vI a7), some (vI a8), some (vI (o_shl 1 a8)), none, none]) rfl ?_
            exact e_X7_wiremanPlays_65 d r_X7_mousePlays (f_X7_wiremanPlays_20 r_X7_mousePlays n) hr_X7_mousePlays ih a2 a3 a4 a6 a7 a8 (o_shl 1 a8) 1 M _ _ h
def fo_X7_wiremanPlays (r_X7_mousePlays : Int → Int → Int → Int → Int → AM → Option (Int × AM)) (a2 : Int) (a3 : Int) (a4 : Int) (a5 : Int) (a6 : Int) (M : AM) : Option (Int × AM) := if 0 < a2 then f_X7_wiremanPlays_20 r_X7_mousePlays zB a2 a3 a4 a6 a5 0 M else ((f_X7_countRung a3 a4 M).bind fun x1 => some (x1.1, x1.2))
theorem eo_X7_wiremanPlays {Y : List (Nat × Nat)} (d : Nat) (r_X7_mousePlays : Int → Int → Int → Int → Int → AM → Option (Int × AM)) (hr_X7_mousePlays : ∀ (a2 : Int) (a3 : Int) (a4 : Int) (a5 : Int) (a6 : Int) (M : AM) (x : Int) (N : AM), r_X7_mousePlays a2 a3 a4 a5 a6 M = some (x, N) → Ev Y (d + 2) m_X7_mousePlays 0 [some (vR 63 17 0), some (vR 23 11 0), some (vI a2), some (vI a3), some (vI a4), some (vI a5), some (vI a6), none, none, none] [] M (some (vI x)) N) (a2 : Int) (a3 : Int) (a4 : Int) (a5 : Int) (a6 : Int) (M : AM) (x : Int) (N : AM) (h : fo_X7_wiremanPlays r_X7_mousePlays a2 a3 a4 a5 a6 M = some (x, N)) : Ev Y (d + 3) m_X7_wiremanPlays 0 [some (vR 63 17 0), some (vR 23 11 0), some (vI a2), some (vI a3), some (vI a4), some (vI a5), some (vI a6), none, none, none, none, none] [] M (some (vI x)) N := by
  unfold fo_X7_wiremanPlays at h
  refine Z_blk k_X7_wiremanPlays 1 (pc' := 1) (lo' := [some (vR 63 17 0), some (vR 23 11 0), some (vI a2), some (vI a3), some (vI a4), some (vI a5), some (vI a6), none, none, none, none, none]) (st' := [vI a2]) (M1 := M) rfl ?_
  refine Z_if k_X7_wiremanPlays rfl 13 rfl (fun hc => ?_) (fun hc => ?_)
  · replace h := of_pos hc h
    refine Z_blk k_X7_wiremanPlays 4 (pc' := 20) (lo' := [some (vR 63 17 0), some (vR 23 11 0), some (vI a2), some (vI a3), some (vI a4), some (vI a5), some (vI a6), some (vI a5), some (vI 0), none, none, none]) (st' := []) (M1 := M) rfl ?_
    refine Z_mask [true, true, true, true, true, false, true, true, true, false, false, false] (lo0 := [some (vR 63 17 0), some (vR 23 11 0), some (vI a2), some (vI a3), some (vI a4), none, some (vI a6), some (vI a5), some (vI 0), none, none, none]) rfl ?_
    exact e_X7_wiremanPlays_20 d r_X7_mousePlays hr_X7_mousePlays zB a2 a3 a4 a6 a5 0 M _ _ h
  · replace h := of_neg hc h
    refine Z_blk k_X7_wiremanPlays 4 (pc' := 9) (lo' := [some (vR 63 17 0), some (vR 23 11 0), some (vI a2), some (vI a3), some (vI a4), some (vI a5), some (vI a6), none, none, none, none, none]) (st' := [vI a4, vI a3, vR 23 11 0, vR 63 17 0]) (M1 := M) rfl ?_
    obtain ⟨x1, hx1, h⟩ := Option.bind_eq_some_iff.mp h
    refine Z_callV8 k_X7_wiremanPlays k_X7_countRung rfl rfl (l_7_107) (ci := 7) rfl [vR 23 11 0, vI a3, vI a4] [] rfl rfl (Nat.le_of_ble_eq_true rfl) (Nat.le_of_ble_eq_true rfl) (e_X7_countRung (d + 0) a3 a4 M _ _ hx1) ?_
    cases h
    exact Z_ret ⟨Or.inl rfl, _, rfl⟩ rfl
def fc_X7_wiremanPlays : Nat → Int → Int → Int → Int → Int → AM → Option (Int × AM)
  | 0, _, _, _, _, _, _ => none
  | n + 1, a2, a3, a4, a5, a6, M => fo_X7_wiremanPlays (fo_X7_mousePlays (fc_X7_wiremanPlays n)) a2 a3 a4 a5 a6 M
theorem ec_X7_wiremanPlays {Y : List (Nat × Nat)} (d : Nat) : ∀ (n : Nat) (a2 : Int) (a3 : Int) (a4 : Int) (a5 : Int) (a6 : Int) (M : AM) (x : Int) (N : AM), fc_X7_wiremanPlays n a2 a3 a4 a5 a6 M = some (x, N) → Ev Y (d + 2 * n + 2) m_X7_wiremanPlays 0 [some (vR 63 17 0), some (vR 23 11 0), some (vI a2), some (vI a3), some (vI a4), some (vI a5), some (vI a6), none, none, none, none, none] [] M (some (vI x)) N := by
  intro n
  induction n with
  | zero => intro a2 a3 a4 a5 a6 M x N h; cases h
  | succ n ih =>
    intro a2 a3 a4 a5 a6 M x N h
    simp only [fc_X7_wiremanPlays] at h
    exact Ev_cast (by omega) (eo_X7_wiremanPlays (d + 2 * n + 1) (fo_X7_mousePlays (fc_X7_wiremanPlays n)) (fun a2 a3 a4 a5 a6 M x N h => Ev_cast (by omega) (eo_X7_mousePlays (d + 2 * n) (fc_X7_wiremanPlays n) ih a2 a3 a4 a5 a6 M _ _ h)) a2 a3 a4 a5 a6 M _ _ h)
def f_X7_wiremanPlays (a2 : Int) (a3 : Int) (a4 : Int) (a5 : Int) (a6 : Int) (M : AM) : Option (Int × AM) := fc_X7_wiremanPlays 6 a2 a3 a4 a5 a6 M
theorem e_X7_wiremanPlays {Y : List (Nat × Nat)} (d : Nat) (a2 : Int) (a3 : Int) (a4 : Int) (a5 : Int) (a6 : Int) (M : AM) (x : Int) (N : AM) (h : f_X7_wiremanPlays a2 a3 a4 a5 a6 M = some (x, N)) : Ev Y (d + 14) m_X7_wiremanPlays 0 [some (vR 63 17 0), some (vR 23 11 0), some (vI a2), some (vI a3), some (vI a4), some (vI a5), some (vI a6), none, none, none, none, none] [] M (some (vI x)) N := Ev_cast (by omega) (ec_X7_wiremanPlays d 6 a2 a3 a4 a5 a6 M _ _ h)
def f_X7_mousePlays (a2 : Int) (a3 : Int) (a4 : Int) (a5 : Int) (a6 : Int) (M : AM) : Option (Int × AM) := fo_X7_mousePlays (fc_X7_wiremanPlays 6) a2 a3 a4 a5 a6 M
theorem e_X7_mousePlays {Y : List (Nat × Nat)} (d : Nat) (a2 : Int) (a3 : Int) (a4 : Int) (a5 : Int) (a6 : Int) (M : AM) (x : Int) (N : AM) (h : f_X7_mousePlays a2 a3 a4 a5 a6 M = some (x, N)) : Ev Y (d + 15) m_X7_mousePlays 0 [some (vR 63 17 0), some (vR 23 11 0), some (vI a2), some (vI a3), some (vI a4), some (vI a5), some (vI a6), none, none, none] [] M (some (vI x)) N := Ev_cast (by omega) (eo_X7_mousePlays (d + 12) (fc_X7_wiremanPlays 6) (fun a2 a3 a4 a5 a6 M x N h => Ev_cast (by omega) (ec_X7_wiremanPlays d 6 a2 a3 a4 a5 a6 M _ _ h)) a2 a3 a4 a5 a6 M _ _ h)
def f_X7_playOut_35 : Nat → Int → Int → Int → AM → Option (AM)
  | 0, _, _, _, _ => none
  | n + 1, a2, a3, a4, M => if M 23 3 ≤ a4 then ((f_X7_wiremanPlays (o_sub a2 1) (M 23 7) 0 0 a3 M).bind fun x1 => if a3 ≤ x1.1 then (zlet (am_upd x1.2 63 1 a3) fun M2 => some M2) else (zlet (am_upd x1.2 63 2 (-1)) fun M3 => zlet (am_upd M3 63 1 x1.1) fun M4 => some M4)) else ((f_X1_isWhole 23 a4 M).bind fun x5 => if x5.1 = 0 then f_X7_playOut_35 n a2 a3 (o_add a4 1) x5.2 else ((f_X7_wiremanPlays (o_sub a2 1) (o_and (x5.2 23 7) (o_xor (o_shl 1 a4) (-1))) 0 0 a3 x5.2).bind fun x6 => if a3 ≤ x6.1 then f_X7_playOut_35 n a2 a3 (o_add a4 1) x6.2 else (zlet (am_upd x6.2 63 2 a4) fun M7 => f_X7_playOut_35 n a2 x6.1 (o_add a4 1) M7)))
theorem e_X7_playOut_35 {Y : List (Nat × Nat)} (d : Nat) : ∀ (n : Nat) (a2 : Int) (a3 : Int) (a4 : Int) (M : AM) (N : AM), f_X7_playOut_35 n a2 a3 a4 M = some N → Ev Y (d + 15) m_X7_playOut 35 [some (vR 63 17 0), some (vR 23 11 0), some (vI a2), some (vI a3), some (vI a4), none] [] M none N := by
  intro n
  induction n with
  | zero => intro a2 a3 a4 M N h; cases h
  | succ n ih =>
    intro a2 a3 a4 M N h
    simp only [f_X7_playOut_35] at h
    refine Z_blk k_X7_playOut 3 (pc' := 41) (lo' := [some (vR 63 17 0), some (vR 23 11 0), some (vI a2), some (vI a3), some (vI a4), none]) (st' := [vI (M 23 3), vI a4]) (M1 := M) rfl ?_
    refine Z_icmp k_X7_playOut rfl 98 rfl (fun hc => ?_) (fun hc => ?_)
    · replace h := of_pos hc h
      refine Z_blk k_X7_playOut 10 (pc' := 110) (lo' := [some (vR 63 17 0), some (vR 23 11 0), some (vI a2), some (vI a3), some (vI a4), none]) (st' := [vI a3, vI 0, vI 0, vI (M 23 7), vI (o_sub a2 1), vR 23 11 0, vR 63 17 0]) (M1 := M) rfl ?_
      obtain ⟨x1, hx1, h⟩ := Option.bind_eq_some_iff.mp h
      refine Z_callV8 k_X7_playOut k_X7_wiremanPlays rfl rfl (l_7_111) (ci := 7) rfl [vR 23 11 0, vI (o_sub a2 1), vI (M 23 7), vI 0, vI 0, vI a3] [] rfl rfl (Nat.le_of_ble_eq_true rfl) (Nat.le_of_ble_eq_true rfl) (e_X7_wiremanPlays (d + 0) (o_sub a2 1) (M 23 7) 0 0 a3 M _ _ hx1) ?_
      refine Z_blk k_X7_playOut 3 (pc' := 118) (lo' := [some (vR 63 17 0), some (vR 23 11 0), some (vI a2), some (vI a3), some (vI x1.1), none]) (st' := [vI a3, vI x1.1]) (M1 := x1.2) rfl ?_
      refine Z_icmp k_X7_playOut rfl 129 rfl (fun hc => ?_) (fun hc => ?_)
      · replace h := of_pos hc h
        obtain ⟨M2, eM2, h⟩ := of_zlet h
        refine Z_blk k_X7_playOut 3 (pc' := 134) (lo' := [some (vR 63 17 0), some (vR 23 11 0), some (vI a2), some (vI a3), some (vI x1.1), none]) (st' := []) (M1 := M2) (by rw [eM2]; rfl) ?_
        cases h
        exact Z_ret ⟨rfl, _, rfl⟩ rfl
      · replace h := of_neg hc h
        obtain ⟨M3, eM3, h⟩ := of_zlet h
        refine Z_blk k_X7_playOut 5 (pc' := 129) (lo' := [some (vR 63 17 0), some (vR 23 11 0), some (vI a2), some (vI x1.1), some (vI x1.1), none]) (st' := []) (M1 := M3) (by rw [eM3]; rfl) ?_
        obtain ⟨M4, eM4, h⟩ := of_zlet h
        refine Z_blk k_X7_playOut 3 (pc' := 134) (lo' := [some (vR 63 17 0), some (vR 23 11 0), some (vI a2), some (vI x1.1), some (vI x1.1), none]) (st' := []) (M1 := M4) (by rw [eM4]; rfl) ?_
        cases h
        exact Z_ret ⟨rfl, _, rfl⟩ rfl
    · replace h := of_neg hc h
      refine Z_blk k_X7_playOut 2 (pc' := 47) (lo' := [some (vR 63 17 0), some (vR 23 11 0), some (vI a2), some (vI a3), some (vI a4), none]) (st' := [vI a4, vR 23 11 0]) (M1 := M) rfl ?_
      obtain ⟨x5, hx5, h⟩ := Option.bind_eq_some_iff.mp h
      refine Z_callV8 k_X7_playOut k_X1_isWhole rfl rfl (l_7_89) (ci := 1) rfl [vI a4] [] rfl rfl (Nat.le_of_ble_eq_true rfl) (Nat.le_of_ble_eq_true rfl) (e_X1_isWhole (d + 14) 23 a4 M _ _ hx5) ?_
      refine Z_if k_X7_playOut rfl 92 rfl (fun hc => ?_) (fun hc => ?_)
      · replace h := of_pos hc h
        refine Z_blk k_X7_playOut 2 (pc' := 35) (lo' := [some (vR 63 17 0), some (vR 23 11 0), some (vI a2), some (vI a3), some (vI (o_add a4 1)), none]) (st' := []) (M1 := x5.2) rfl ?_
        refine Z_mask [true, true, true, true, true, false] (lo0 := [some (vR 63 17 0), some (vR 23 11 0), some (vI a2), some (vI a3), some (vI (o_add a4 1)), none]) rfl ?_
        exact ih a2 a3 (o_add a4 1) x5.2 _ h
      · replace h := of_neg hc h
        refine Z_blk k_X7_playOut 16 (pc' := 72) (lo' := [some (vR 63 17 0), some (vR 23 11 0), some (vI a2), some (vI a3), some (vI a4), none]) (st' := [vI a3, vI 0, vI 0, vI (o_and (x5.2 23 7) (o_xor (o_shl 1 a4) (-1))), vI (o_sub a2 1), vR 23 11 0, vR 63 17 0]) (M1 := x5.2) rfl ?_
        obtain ⟨x6, hx6, h⟩ := Option.bind_eq_some_iff.mp h
        refine Z_callV8 k_X7_playOut k_X7_wiremanPlays rfl rfl (l_7_111) (ci := 7) rfl [vR 23 11 0, vI (o_sub a2 1), vI (o_and (x5.2 23 7) (o_xor (o_shl 1 a4) (-1))), vI 0, vI 0, vI a3] [] rfl rfl (Nat.le_of_ble_eq_true rfl) (Nat.le_of_ble_eq_true rfl) (e_X7_wiremanPlays (d + 0) (o_sub a2 1) (o_and (x5.2 23 7) (o_xor (o_shl 1 a4) (-1))) 0 0 a3 x5.2 _ _ hx6) ?_
        refine Z_blk k_X7_playOut 3 (pc' := 80) (lo' := [some (vR 63 17 0), some (vR 23 11 0), some (vI a2), some (vI a3), some (vI a4), some (vI x6.1)]) (st' := [vI a3, vI x6.1]) (M1 := x6.2) rfl ?_
        refine Z_icmp k_X7_playOut rfl 92 rfl (fun hc => ?_) (fun hc => ?_)
        · replace h := of_pos hc h
          refine Z_blk k_X7_playOut 2 (pc' := 35) (lo' := [some (vR 63 17 0), some (vR 23 11 0), some (vI a2), some (vI a3), some (vI (o_add a4 1)), some (vI x6.1)]) (st' := []) (M1 := x6.2) rfl ?_
          refine Z_mask [true, true, true, true, true, false] (lo0 := [some (vR 63 17 0), some (vR 23 11 0), some (vI a2), some (vI a3), some (vI (o_add a4 1)), none]) rfl ?_
          exact ih a2 a3 (o_add a4 1) x6.2 _ h
        · replace h := of_neg hc h
          obtain ⟨M7, eM7, h⟩ := of_zlet h
          refine Z_blk k_X7_playOut 5 (pc' := 92) (lo' := [some (vR 63 17 0), some (vR 23 11 0), some (vI a2), some (vI x6.1), some (vI a4), some (vI x6.1)]) (st' := []) (M1 := M7) (by rw [eM7]; rfl) ?_
          refine Z_blk k_X7_playOut 2 (pc' := 35) (lo' := [some (vR 63 17 0), some (vR 23 11 0), some (vI a2), some (vI x6.1), some (vI (o_add a4 1)), some (vI x6.1)]) (st' := []) (M1 := M7) rfl ?_
          refine Z_mask [true, true, true, true, true, false] (lo0 := [some (vR 63 17 0), some (vR 23 11 0), some (vI a2), some (vI x6.1), some (vI (o_add a4 1)), none]) rfl ?_
          exact ih a2 x6.1 (o_add a4 1) M7 _ h
def f_X7_playOut (a2 : Int) (M : AM) : Option (AM) := zlet (am_upd M 63 2 (-1)) fun M1 => if 1 ≤ a2 then f_X7_playOut_35 zB a2 (o_add (M1 23 4) 1) 0 M1 else ((f_X7_countRung (M1 23 7) 0 M1).bind fun x2 => zlet (am_upd x2.2 63 1 x2.1) fun M3 => some M3)
theorem e_X7_playOut {Y : List (Nat × Nat)} (d : Nat) (a2 : Int) (M : AM) (N : AM) (h : f_X7_playOut a2 M = some N) : Ev Y (d + 15) m_X7_playOut 0 [some (vR 63 17 0), some (vR 23 11 0), some (vI a2), none, none, none] [] M none N := by
  unfold f_X7_playOut at h
  obtain ⟨M1, eM1, h⟩ := of_zlet h
  refine Z_blk k_X7_playOut 3 (pc' := 5) (lo' := [some (vR 63 17 0), some (vR 23 11 0), some (vI a2), none, none, none]) (st' := []) (M1 := M1) (by rw [eM1]; rfl) ?_
  refine Z_blk k_X7_playOut 2 (pc' := 7) (lo' := [some (vR 63 17 0), some (vR 23 11 0), some (vI a2), none, none, none]) (st' := [vI 1, vI a2]) (M1 := M1) rfl ?_
  refine Z_icmp k_X7_playOut rfl 25 rfl (fun hc => ?_) (fun hc => ?_)
  · replace h := of_pos hc h
    refine Z_blk k_X7_playOut 7 (pc' := 35) (lo' := [some (vR 63 17 0), some (vR 23 11 0), some (vI a2), some (vI (o_add (M1 23 4) 1)), some (vI 0), none]) (st' := []) (M1 := M1) rfl ?_
    refine Z_mask [true, true, true, true, true, false] (lo0 := [some (vR 63 17 0), some (vR 23 11 0), some (vI a2), some (vI (o_add (M1 23 4) 1)), some (vI 0), none]) rfl ?_
    exact e_X7_playOut_35 d zB a2 (o_add (M1 23 4) 1) 0 M1 _ h
  · replace h := of_neg hc h
    refine Z_blk k_X7_playOut 6 (pc' := 18) (lo' := [some (vR 63 17 0), some (vR 23 11 0), some (vI a2), none, none, none]) (st' := [vI 0, vI (M1 23 7), vR 23 11 0, vR 63 17 0, vR 63 17 0]) (M1 := M1) rfl ?_
    obtain ⟨x2, hx2, h⟩ := Option.bind_eq_some_iff.mp h
    refine Z_callV8 k_X7_playOut k_X7_countRung rfl rfl (l_7_107) (ci := 7) rfl [vR 23 11 0, vI (M1 23 7), vI 0] [vR 63 17 0] rfl rfl (Nat.le_of_ble_eq_true rfl) (Nat.le_of_ble_eq_true rfl) (e_X7_countRung (d + 12) (M1 23 7) 0 M1 _ _ hx2) ?_
    obtain ⟨M3, eM3, h⟩ := of_zlet h
    refine Z_blk k_X7_playOut 1 (pc' := 24) (lo' := [some (vR 63 17 0), some (vR 23 11 0), some (vI a2), none, none, none]) (st' := []) (M1 := M3) (by rw [eM3]; rfl) ?_
    cases h
    exact Z_ret ⟨rfl, _, rfl⟩ rfl
def f_X8_forget (q : Nat) (M : AM) : Option (AM) := zlet (am_upd M q 0 0) fun M1 => zlet (am_upd M1 q 1 0) fun M2 => zlet (am_upd M2 q 2 0) fun M3 => zlet (am_upd M3 q 10 0) fun M4 => some M4
theorem e_X8_forget {Y : List (Nat × Nat)} (d : Nat) (q : Nat) (M : AM) (N : AM) (h : f_X8_forget q M = some N) : Ev Y (d + 0) m_X8_forget 0 [some (vR q 18 0)] [] M none N := by
  unfold f_X8_forget at h
  obtain ⟨M1, eM1, h⟩ := of_zlet h
  refine Z_blk k_X8_forget 3 (pc' := 5) (lo' := [some (vR q 18 0)]) (st' := []) (M1 := M1) (by rw [eM1]; rfl) ?_
  obtain ⟨M2, eM2, h⟩ := of_zlet h
  refine Z_blk k_X8_forget 3 (pc' := 10) (lo' := [some (vR q 18 0)]) (st' := []) (M1 := M2) (by rw [eM2]; rfl) ?_
  obtain ⟨M3, eM3, h⟩ := of_zlet h
  refine Z_blk k_X8_forget 3 (pc' := 15) (lo' := [some (vR q 18 0)]) (st' := []) (M1 := M3) (by rw [eM3]; rfl) ?_
  obtain ⟨M4, eM4, h⟩ := of_zlet h
  refine Z_blk k_X8_forget 3 (pc' := 20) (lo' := [some (vR q 18 0)]) (st' := []) (M1 := M4) (by rw [eM4]; rfl) ?_
  cases h
  exact Z_ret ⟨rfl, _, rfl⟩ rfl
def f_X8_openRow (q : Nat) (a1 : Int) (M : AM) : Option (AM) := if 3 ≤ M q 10 then some M else (if 0 ≤ M q 10 ∧ M q 10 < 3 then (zlet (am_upd M (q + 7) (Int.toNat (M q 10)) a1) fun M2 => zlet (am_upd M2 q 10 (o_add (M2 q 10) 1)) fun M3 => some M3) else none)
theorem e_X8_openRow {Y : List (Nat × Nat)} (d : Nat) (q : Nat) (a1 : Int) (M : AM) (N : AM) (h : f_X8_openRow q a1 M = some N) : Ev Y (d + 0) m_X8_openRow 0 [some (vR q 18 0), some (vI a1)] [] M none N := by
  unfold f_X8_openRow at h
  refine Z_blk k_X8_openRow 3 (pc' := 5) (lo' := [some (vR q 18 0), some (vI a1)]) (st' := [vI 3, vI (M q 10)]) (M1 := M) rfl ?_
  refine Z_icmp k_X8_openRow rfl 28 rfl (fun hc => ?_) (fun hc => ?_)
  · replace h := of_pos hc h
    cases h
    exact Z_ret ⟨rfl, _, rfl⟩ rfl
  · replace h := of_neg hc h
    refine Z_blk k_X8_openRow 5 (pc' := 17) (lo' := [some (vR q 18 0), some (vI a1)]) (st' := [vI a1, vI (M q 10), vR (q + 7) 0 3]) (M1 := M) rfl ?_
    obtain ⟨hc1, h⟩ := of_grd h
    obtain ⟨M2, eM2, h⟩ := of_zlet h
    refine Z_one k_X8_openRow rfl (pc' := 18) (lo' := [some (vR q 18 0), some (vI a1)]) (st' := []) (M1 := M2) (by rw [eM2]; exact if_pos hc1) ?_
    obtain ⟨M3, eM3, h⟩ := of_zlet h
    refine Z_blk k_X8_openRow 6 (pc' := 28) (lo' := [some (vR q 18 0), some (vI a1)]) (st' := []) (M1 := M3) (by rw [eM3]; rfl) ?_
    cases h
    exact Z_ret ⟨rfl, _, rfl⟩ rfl
def f_X8_closeRow (q : Nat) (a1 : Int) (M : AM) : Option (AM) := if M q 10 ≤ 0 then some M else (zlet (am_upd M q 10 (o_sub (M q 10) 1)) fun M1 => if 0 ≤ M1 q 10 ∧ M1 q 10 < 3 then (if 0 ≤ a1 ∧ a1 < 60 then (zlet (am_upd M1 (q + 6) (Int.toNat a1) (M1 (q + 7) (Int.toNat (M1 q 10)))) fun M4 => if 0 ≤ M4 q 10 ∧ M4 q 10 < 3 then (if 0 ≤ M4 (q + 7) (Int.toNat (M4 q 10)) ∧ M4 (q + 7) (Int.toNat (M4 q 10)) < 60 then (zlet (am_upd M4 (q + 6) (Int.toNat (M4 (q + 7) (Int.toNat (M4 q 10)))) a1) fun M7 => some M7) else none) else none) else none) else none)
theorem e_X8_closeRow {Y : List (Nat × Nat)} (d : Nat) (q : Nat) (a1 : Int) (M : AM) (N : AM) (h : f_X8_closeRow q a1 M = some N) : Ev Y (d + 0) m_X8_closeRow 0 [some (vR q 18 0), some (vI a1)] [] M none N := by
  unfold f_X8_closeRow at h
  refine Z_blk k_X8_closeRow 2 (pc' := 4) (lo' := [some (vR q 18 0), some (vI a1)]) (st' := [vI (M q 10)]) (M1 := M) rfl ?_
  refine Z_if k_X8_closeRow rfl 47 rfl (fun hc => ?_) (fun hc => ?_)
  · replace h := of_pos hc h
    cases h
    exact Z_ret ⟨rfl, _, rfl⟩ rfl
  · replace h := of_neg hc h
    obtain ⟨M1, eM1, h⟩ := of_zlet h
    refine Z_blk k_X8_closeRow 6 (pc' := 17) (lo' := [some (vR q 18 0), some (vI a1)]) (st' := []) (M1 := M1) (by rw [eM1]; rfl) ?_
    refine Z_blk k_X8_closeRow 7 (pc' := 30) (lo' := [some (vR q 18 0), some (vI a1)]) (st' := [vI (M1 q 10), vR (q + 7) 0 3, vI a1, vR (q + 6) 0 60]) (M1 := M1) rfl ?_
    obtain ⟨hc2, h⟩ := of_grd h
    refine Z_one k_X8_closeRow rfl (pc' := 31) (lo' := [some (vR q 18 0), some (vI a1)]) (st' := [vI (M1 (q + 7) (Int.toNat (M1 q 10))), vI a1, vR (q + 6) 0 60]) (M1 := M1) (if_pos hc2) ?_
    obtain ⟨hc3, h⟩ := of_grd h
    obtain ⟨M4, eM4, h⟩ := of_zlet h
    refine Z_one k_X8_closeRow rfl (pc' := 32) (lo' := [some (vR q 18 0), some (vI a1)]) (st' := []) (M1 := M4) (by rw [eM4]; exact if_pos hc3) ?_
    refine Z_blk k_X8_closeRow 6 (pc' := 44) (lo' := [some (vR q 18 0), some (vI a1)]) (st' := [vI (M4 q 10), vR (q + 7) 0 3, vR (q + 6) 0 60]) (M1 := M4) rfl ?_
    obtain ⟨hc5, h⟩ := of_grd h
    refine Z_one k_X8_closeRow rfl (pc' := 45) (lo' := [some (vR q 18 0), some (vI a1)]) (st' := [vI (M4 (q + 7) (Int.toNat (M4 q 10))), vR (q + 6) 0 60]) (M1 := M4) (if_pos hc5) ?_
    refine Z_blk k_X8_closeRow 1 (pc' := 46) (lo' := [some (vR q 18 0), some (vI a1)]) (st' := [vI a1, vI (M4 (q + 7) (Int.toNat (M4 q 10))), vR (q + 6) 0 60]) (M1 := M4) rfl ?_
    obtain ⟨hc6, h⟩ := of_grd h
    obtain ⟨M7, eM7, h⟩ := of_zlet h
    refine Z_one k_X8_closeRow rfl (pc' := 47) (lo' := [some (vR q 18 0), some (vI a1)]) (st' := []) (M1 := M7) (by rw [eM7]; exact if_pos hc6) ?_
    cases h
    exact Z_ret ⟨rfl, _, rfl⟩ rfl
def f_X8_addRow (q : Nat) (a1 : Int) (M : AM) : Option (Int × AM) := if M q 2 < 60 then (if 0 ≤ M q 2 ∧ M q 2 < 60 then (zlet (am_upd M (q + 1) (Int.toNat (M q 2)) a1) fun M2 => if 0 ≤ M2 q 2 ∧ M2 q 2 < 60 then (zlet (am_upd M2 (q + 2) (Int.toNat (M2 q 2)) (-1)) fun M4 => if 0 ≤ M4 q 2 ∧ M4 q 2 < 60 then (zlet (am_upd M4 (q + 3) (Int.toNat (M4 q 2)) 0) fun M6 => if 0 ≤ M6 q 2 ∧ M6 q 2 < 60 then (zlet (am_upd M6 (q + 4) (Int.toNat (M6 q 2)) 0) fun M8 => if 0 ≤ M8 q 2 ∧ M8 q 2 < 60 then (zlet (am_upd M8 (q + 5) (Int.toNat (M8 q 2)) 0) fun M10 => if 0 ≤ M10 q 2 ∧ M10 q 2 < 60 then (zlet (am_upd M10 (q + 6) (Int.toNat (M10 q 2)) (M10 q 2)) fun M12 => zlet (am_upd M12 q 2 (o_add (M12 q 2) 1)) fun M13 => some (o_sub (M13 q 2) 1, M13)) else none) else none) else none) else none) else none) else none) else some (59, M)
theorem e_X8_addRow {Y : List (Nat × Nat)} (d : Nat) (q : Nat) (a1 : Int) (M : AM) (x : Int) (N : AM) (h : f_X8_addRow q a1 M = some (x, N)) : Ev Y (d + 0) m_X8_addRow 0 [some (vR q 18 0), some (vI a1)] [] M (some (vI x)) N := by
  unfold f_X8_addRow at h
  refine Z_blk k_X8_addRow 3 (pc' := 6) (lo' := [some (vR q 18 0), some (vI a1)]) (st' := [vI 60, vI (M q 2)]) (M1 := M) rfl ?_
  refine Z_icmp k_X8_addRow rfl 12 rfl (fun hc => ?_) (fun hc => ?_)
  · replace h := of_pos hc h
    refine Z_blk k_X8_addRow 5 (pc' := 21) (lo' := [some (vR q 18 0), some (vI a1)]) (st' := [vI a1, vI (M q 2), vR (q + 1) 0 60]) (M1 := M) rfl ?_
    obtain ⟨hc1, h⟩ := of_grd h
    obtain ⟨M2, eM2, h⟩ := of_zlet h
    refine Z_one k_X8_addRow rfl (pc' := 22) (lo' := [some (vR q 18 0), some (vI a1)]) (st' := []) (M1 := M2) (by rw [eM2]; exact if_pos hc1) ?_
    refine Z_blk k_X8_addRow 5 (pc' := 31) (lo' := [some (vR q 18 0), some (vI a1)]) (st' := [vI (-1), vI (M2 q 2), vR (q + 2) 0 60]) (M1 := M2) rfl ?_
    obtain ⟨hc3, h⟩ := of_grd h
    obtain ⟨M4, eM4, h⟩ := of_zlet h
    refine Z_one k_X8_addRow rfl (pc' := 32) (lo' := [some (vR q 18 0), some (vI a1)]) (st' := []) (M1 := M4) (by rw [eM4]; exact if_pos hc3) ?_
    refine Z_blk k_X8_addRow 5 (pc' := 41) (lo' := [some (vR q 18 0), some (vI a1)]) (st' := [vI 0, vI (M4 q 2), vR (q + 3) 0 60]) (M1 := M4) rfl ?_
    obtain ⟨hc5, h⟩ := of_grd h
    obtain ⟨M6, eM6, h⟩ := of_zlet h
    refine Z_one k_X8_addRow rfl (pc' := 42) (lo' := [some (vR q 18 0), some (vI a1)]) (st' := []) (M1 := M6) (by rw [eM6]; exact if_pos hc5) ?_
    refine Z_blk k_X8_addRow 5 (pc' := 51) (lo' := [some (vR q 18 0), some (vI a1)]) (st' := [vI 0, vI (M6 q 2), vR (q + 4) 0 60]) (M1 := M6) rfl ?_
    obtain ⟨hc7, h⟩ := of_grd h
    obtain ⟨M8, eM8, h⟩ := of_zlet h
    refine Z_one k_X8_addRow rfl (pc' := 52) (lo' := [some (vR q 18 0), some (vI a1)]) (st' := []) (M1 := M8) (by rw [eM8]; exact if_pos hc7) ?_
    refine Z_blk k_X8_addRow 5 (pc' := 61) (lo' := [some (vR q 18 0), some (vI a1)]) (st' := [vI 0, vI (M8 q 2), vR (q + 5) 0 60]) (M1 := M8) rfl ?_
    obtain ⟨hc9, h⟩ := of_grd h
    obtain ⟨M10, eM10, h⟩ := of_zlet h
    refine Z_one k_X8_addRow rfl (pc' := 62) (lo' := [some (vR q 18 0), some (vI a1)]) (st' := []) (M1 := M10) (by rw [eM10]; exact if_pos hc9) ?_
    refine Z_blk k_X8_addRow 6 (pc' := 74) (lo' := [some (vR q 18 0), some (vI a1)]) (st' := [vI (M10 q 2), vI (M10 q 2), vR (q + 6) 0 60]) (M1 := M10) rfl ?_
    obtain ⟨hc11, h⟩ := of_grd h
    obtain ⟨M12, eM12, h⟩ := of_zlet h
    refine Z_one k_X8_addRow rfl (pc' := 75) (lo' := [some (vR q 18 0), some (vI a1)]) (st' := []) (M1 := M12) (by rw [eM12]; exact if_pos hc11) ?_
    obtain ⟨M13, eM13, h⟩ := of_zlet h
    refine Z_blk k_X8_addRow 6 (pc' := 85) (lo' := [some (vR q 18 0), some (vI a1)]) (st' := []) (M1 := M13) (by rw [eM13]; rfl) ?_
    refine Z_blk k_X8_addRow 4 (pc' := 91) (lo' := [some (vR q 18 0), some (vI a1)]) (st' := [vI (o_sub (M13 q 2) 1)]) (M1 := M13) rfl ?_
    cases h
    exact Z_ret ⟨Or.inl rfl, _, rfl⟩ rfl
  · replace h := of_neg hc h
    refine Z_blk k_X8_addRow 1 (pc' := 11) (lo' := [some (vR q 18 0), some (vI a1)]) (st' := [vI 59]) (M1 := M) rfl ?_
    cases h
    exact Z_ret ⟨Or.inl rfl, _, rfl⟩ rfl
def f_X8_copyFrom (q : Nat) (b1 : Nat) (M : AM) : Option (AM) := if M b1 0 = 0 ∨ M b1 0 = 1 then (zlet (am_upd M q 0 (M b1 0)) fun M2 => zlet (am_upd M2 q 1 (M2 b1 1)) fun M3 => zlet (am_upd M3 q 2 (M3 b1 2)) fun M4 => zlet (am_row M4 (q + 1) (cp_row (M4 (b1 + 1)) (M4 (q + 1)) (Int.toNat 0) (Int.toNat 0) (Int.toNat 60))) fun M5 => zlet (am_row M5 (q + 2) (cp_row (M5 (b1 + 2)) (M5 (q + 2)) (Int.toNat 0) (Int.toNat 0) (Int.toNat 60))) fun M6 => zlet (am_row M6 (q + 3) (cp_row (M6 (b1 + 3)) (M6 (q + 3)) (Int.toNat 0) (Int.toNat 0) (Int.toNat 60))) fun M7 => zlet (am_row M7 (q + 4) (cp_row (M7 (b1 + 4)) (M7 (q + 4)) (Int.toNat 0) (Int.toNat 0) (Int.toNat 60))) fun M8 => zlet (am_row M8 (q + 5) (cp_row (M8 (b1 + 5)) (M8 (q + 5)) (Int.toNat 0) (Int.toNat 0) (Int.toNat 60))) fun M9 => zlet (am_row M9 (q + 6) (cp_row (M9 (b1 + 6)) (M9 (q + 6)) (Int.toNat 0) (Int.toNat 0) (Int.toNat 60))) fun M10 => some M10) else none
theorem e_X8_copyFrom {Y : List (Nat × Nat)} (d : Nat) (q : Nat) (b1 : Nat) (M : AM) (N : AM) (h : f_X8_copyFrom q b1 M = some N) : Ev Y (d + 0) m_X8_copyFrom 0 [some (vR q 18 0), some (vR b1 18 0)] [] M none N := by
  unfold f_X8_copyFrom at h
  refine Z_blk k_X8_copyFrom 3 (pc' := 5) (lo' := [some (vR q 18 0), some (vR b1 18 0)]) (st' := [vI (M b1 0), vR q 18 0]) (M1 := M) rfl ?_
  obtain ⟨hc1, h⟩ := of_grd h
  obtain ⟨M2, eM2, h⟩ := of_zlet h
  refine Z_one k_X8_copyFrom rfl (pc' := 8) (lo' := [some (vR q 18 0), some (vR b1 18 0)]) (st' := []) (M1 := M2) (by rw [eM2]; exact if_pos hc1) ?_
  obtain ⟨M3, eM3, h⟩ := of_zlet h
  refine Z_blk k_X8_copyFrom 4 (pc' := 16) (lo' := [some (vR q 18 0), some (vR b1 18 0)]) (st' := []) (M1 := M3) (by rw [eM3]; rfl) ?_
  obtain ⟨M4, eM4, h⟩ := of_zlet h
  refine Z_blk k_X8_copyFrom 4 (pc' := 24) (lo' := [some (vR q 18 0), some (vR b1 18 0)]) (st' := []) (M1 := M4) (by rw [eM4]; rfl) ?_
  refine Z_blk k_X8_copyFrom 7 (pc' := 36) (lo' := [some (vR q 18 0), some (vR b1 18 0)]) (st' := [vI 60, vI 0, vR (q + 1) 0 60, vI 0, vR (b1 + 1) 0 60]) (M1 := M4) rfl ?_
  obtain ⟨M5, eM5, h⟩ := of_zlet h
  refine Z_one k_X8_copyFrom rfl (pc' := 39) (lo' := [some (vR q 18 0), some (vR b1 18 0)]) (st' := []) (M1 := M5) (by rw [eM5]; exact rfl) ?_
  refine Z_blk k_X8_copyFrom 7 (pc' := 51) (lo' := [some (vR q 18 0), some (vR b1 18 0)]) (st' := [vI 60, vI 0, vR (q + 2) 0 60, vI 0, vR (b1 + 2) 0 60]) (M1 := M5) rfl ?_
  obtain ⟨M6, eM6, h⟩ := of_zlet h
  refine Z_one k_X8_copyFrom rfl (pc' := 54) (lo' := [some (vR q 18 0), some (vR b1 18 0)]) (st' := []) (M1 := M6) (by rw [eM6]; exact rfl) ?_
  refine Z_blk k_X8_copyFrom 7 (pc' := 66) (lo' := [some (vR q 18 0), some (vR b1 18 0)]) (st' := [vI 60, vI 0, vR (q + 3) 0 60, vI 0, vR (b1 + 3) 0 60]) (M1 := M6) rfl ?_
  obtain ⟨M7, eM7, h⟩ := of_zlet h
  refine Z_one k_X8_copyFrom rfl (pc' := 69) (lo' := [some (vR q 18 0), some (vR b1 18 0)]) (st' := []) (M1 := M7) (by rw [eM7]; exact rfl) ?_
  refine Z_blk k_X8_copyFrom 7 (pc' := 81) (lo' := [some (vR q 18 0), some (vR b1 18 0)]) (st' := [vI 60, vI 0, vR (q + 4) 0 60, vI 0, vR (b1 + 4) 0 60]) (M1 := M7) rfl ?_
  obtain ⟨M8, eM8, h⟩ := of_zlet h
  refine Z_one k_X8_copyFrom rfl (pc' := 84) (lo' := [some (vR q 18 0), some (vR b1 18 0)]) (st' := []) (M1 := M8) (by rw [eM8]; exact rfl) ?_
  refine Z_blk k_X8_copyFrom 7 (pc' := 96) (lo' := [some (vR q 18 0), some (vR b1 18 0)]) (st' := [vI 60, vI 0, vR (q + 5) 0 60, vI 0, vR (b1 + 5) 0 60]) (M1 := M8) rfl ?_
  obtain ⟨M9, eM9, h⟩ := of_zlet h
  refine Z_one k_X8_copyFrom rfl (pc' := 99) (lo' := [some (vR q 18 0), some (vR b1 18 0)]) (st' := []) (M1 := M9) (by rw [eM9]; exact rfl) ?_
  refine Z_blk k_X8_copyFrom 7 (pc' := 111) (lo' := [some (vR q 18 0), some (vR b1 18 0)]) (st' := [vI 60, vI 0, vR (q + 6) 0 60, vI 0, vR (b1 + 6) 0 60]) (M1 := M9) rfl ?_
  obtain ⟨M10, eM10, h⟩ := of_zlet h
  refine Z_one k_X8_copyFrom rfl (pc' := 114) (lo' := [some (vR q 18 0), some (vR b1 18 0)]) (st' := []) (M1 := M10) (by rw [eM10]; exact rfl) ?_
  cases h
  exact Z_ret ⟨rfl, _, rfl⟩ rfl
theorem l_9_40 : zhas 3210 (Jvm.Cond.methodLink "BellPullHouse$YearsReader" 40 yX5_refuse) = true := by decide +kernel
theorem l_9_48 : zhas 3211 (Jvm.Cond.methodLink "BellPullHouse$YearsReader" 48 yX5_advance) = true := by decide +kernel
theorem l_9_51 : zhas 3212 (Jvm.Cond.methodLink "BellPullHouse$YearsReader" 51 yX8_addRow) = true := by decide +kernel
theorem l_9_55 : zhas 3216 (Jvm.Cond.methodLink "BellPullHouse$YearsReader" 55 yX8_closeRow) = true := by decide +kernel
theorem l_9_58 : zhas 3220 (Jvm.Cond.methodLink "BellPullHouse$YearsReader" 58 yX5_takeSemicolon) = true := by decide +kernel
def f_X9_readEnd (M : AM) : Option (Int × AM) := if 1 ≤ M 53 10 then ((f_X5_advance M).bind fun x1 => (f_X8_addRow 53 21 x1).bind fun x2 => (f_X8_closeRow 53 x2.1 x2.2).bind fun x3 => (f_X5_takeSemicolon x3).bind fun x4 => if x4.1 = 0 ∨ x4.1 = 1 then some (x4.1, x4.2) else none) else ((f_X5_refuse 2 M).bind fun x6 => if x6.1 = 0 ∨ x6.1 = 1 then some (x6.1, x6.2) else none)
theorem e_X9_readEnd {Y : List (Nat × Nat)} (d : Nat) (M : AM) (x : Int) (N : AM) (h : f_X9_readEnd M = some (x, N)) : Ev Y (d + 4) m_X9_readEnd 0 [some (vR 20 15 0), some (vR 53 18 0)] [] M (some (vI x)) N := by
  unfold f_X9_readEnd at h
  refine Z_blk k_X9_readEnd 3 (pc' := 5) (lo' := [some (vR 20 15 0), some (vR 53 18 0)]) (st' := [vI 1, vI (M 53 10)]) (M1 := M) rfl ?_
  refine Z_icmp k_X9_readEnd rfl 14 rfl (fun hc => ?_) (fun hc => ?_)
  · replace h := of_pos hc h
    refine Z_blk k_X9_readEnd 1 (pc' := 15) (lo' := [some (vR 20 15 0), some (vR 53 18 0)]) (st' := [vR 20 15 0]) (M1 := M) rfl ?_
    obtain ⟨x1, hx1, h⟩ := Option.bind_eq_some_iff.mp h
    refine Z_callV8 k_X9_readEnd k_X5_advance rfl rfl (l_9_48) (ci := 5) rfl [] [] rfl rfl (Nat.le_of_ble_eq_true rfl) (Nat.le_of_ble_eq_true rfl) (e_X5_advance (d + 1) M _ hx1) ?_
    refine Z_blk k_X9_readEnd 3 (pc' := 22) (lo' := [some (vR 20 15 0), some (vR 53 18 0)]) (st' := [vI 21, vR 53 18 0, vR 53 18 0]) (M1 := x1) rfl ?_
    obtain ⟨x2, hx2, h⟩ := Option.bind_eq_some_iff.mp h
    refine Z_callV8 k_X9_readEnd k_X8_addRow rfl rfl (l_9_51) (ci := 8) rfl [vI 21] [vR 53 18 0] rfl rfl (Nat.le_of_ble_eq_true rfl) (Nat.le_of_ble_eq_true rfl) (e_X8_addRow (d + 3) 53 21 x1 _ _ hx2) ?_
    obtain ⟨x3, hx3, h⟩ := Option.bind_eq_some_iff.mp h
    refine Z_callV8 k_X9_readEnd k_X8_closeRow rfl rfl (l_9_55) (ci := 8) rfl [vI x2.1] [] rfl rfl (Nat.le_of_ble_eq_true rfl) (Nat.le_of_ble_eq_true rfl) (e_X8_closeRow (d + 3) 53 x2.1 x2.2 _ hx3) ?_
    refine Z_blk k_X9_readEnd 1 (pc' := 29) (lo' := [some (vR 20 15 0), some (vR 53 18 0)]) (st' := [vR 20 15 0]) (M1 := x3) rfl ?_
    obtain ⟨x4, hx4, h⟩ := Option.bind_eq_some_iff.mp h
    refine Z_callV8 k_X9_readEnd k_X5_takeSemicolon rfl rfl (l_9_58) (ci := 5) rfl [] [] rfl rfl (Nat.le_of_ble_eq_true rfl) (Nat.le_of_ble_eq_true rfl) (e_X5_takeSemicolon (d + 0) x3 _ _ hx4) ?_
    obtain ⟨hc5, h⟩ := of_grd h
    cases h
    exact Z_ret ⟨Or.inr ⟨rfl, hc5⟩, _, rfl⟩ rfl
  · replace h := of_neg hc h
    refine Z_blk k_X9_readEnd 2 (pc' := 10) (lo' := [some (vR 20 15 0), some (vR 53 18 0)]) (st' := [vI 2, vR 20 15 0]) (M1 := M) rfl ?_
    obtain ⟨x6, hx6, h⟩ := Option.bind_eq_some_iff.mp h
    refine Z_callV8 k_X9_readEnd k_X5_refuse rfl rfl (l_9_40) (ci := 5) rfl [vI 2] [] rfl rfl (Nat.le_of_ble_eq_true rfl) (Nat.le_of_ble_eq_true rfl) (e_X5_refuse (d + 3) 2 M _ _ hx6) ?_
    obtain ⟨hc7, h⟩ := of_grd h
    cases h
    exact Z_ret ⟨Or.inr ⟨rfl, hc7⟩, _, rfl⟩ rfl
def f_X9_beginsStep (a0 : Int) (M : AM) : Option (Int × AM) := if a0 = 11 then some (1, M) else (if a0 = 12 then some (1, M) else (if a0 = 13 then some (1, M) else (if a0 = 14 then some (1, M) else (if a0 = 15 then some (1, M) else (if a0 = 16 then some (1, M) else (if a0 = 17 then some (1, M) else (if a0 = 18 then some (0, M) else (if a0 = 19 then some (0, M) else (if a0 = 20 then some (1, M) else (if a0 = 21 then some (0, M) else (if a0 = 22 then some (1, M) else (some (0, M)))))))))))))
theorem e_X9_beginsStep {Y : List (Nat × Nat)} (d : Nat) (a0 : Int) (M : AM) (x : Int) (N : AM) (h : f_X9_beginsStep a0 M = some (x, N)) : Ev Y (d + 0) m_X9_beginsStep 0 [some (vI a0)] [] M (some (vI x)) N := by
  unfold f_X9_beginsStep at h
  refine Z_blk k_X9_beginsStep 1 (pc' := 1) (lo' := [some (vI a0)]) (st' := [vI a0]) (M1 := M) rfl ?_
  by_cases hs0 : a0 = 11
  · replace h := of_pos hs0 h
    refine Z_tabIn k_X9_beginsStep rfl 64 (off := 63) (by rw [hs0]; decide) (by rw [hs0]; decide) (by first | (rw [hs0]; done) | (rw [hs0]; rfl)) rfl ?_
    refine Z_blk k_X9_beginsStep 1 (pc' := 65) (lo' := [some (vI a0)]) (st' := [vI 1]) (M1 := M) rfl ?_
    cases h
    exact Z_ret ⟨Or.inr ⟨rfl, Or.inr rfl⟩, _, rfl⟩ rfl
  · replace h := of_neg hs0 h
    by_cases hs1 : a0 = 12
    · replace h := of_pos hs1 h
      refine Z_tabIn k_X9_beginsStep rfl 64 (off := 63) (by rw [hs1]; decide) (by rw [hs1]; decide) (by first | (rw [hs1]; done) | (rw [hs1]; rfl)) rfl ?_
      refine Z_blk k_X9_beginsStep 1 (pc' := 65) (lo' := [some (vI a0)]) (st' := [vI 1]) (M1 := M) rfl ?_
      cases h
      exact Z_ret ⟨Or.inr ⟨rfl, Or.inr rfl⟩, _, rfl⟩ rfl
    · replace h := of_neg hs1 h
      by_cases hs2 : a0 = 13
      · replace h := of_pos hs2 h
        refine Z_tabIn k_X9_beginsStep rfl 64 (off := 63) (by rw [hs2]; decide) (by rw [hs2]; decide) (by first | (rw [hs2]; done) | (rw [hs2]; rfl)) rfl ?_
        refine Z_blk k_X9_beginsStep 1 (pc' := 65) (lo' := [some (vI a0)]) (st' := [vI 1]) (M1 := M) rfl ?_
        cases h
        exact Z_ret ⟨Or.inr ⟨rfl, Or.inr rfl⟩, _, rfl⟩ rfl
      · replace h := of_neg hs2 h
        by_cases hs3 : a0 = 14
        · replace h := of_pos hs3 h
          refine Z_tabIn k_X9_beginsStep rfl 64 (off := 63) (by rw [hs3]; decide) (by rw [hs3]; decide) (by first | (rw [hs3]; done) | (rw [hs3]; rfl)) rfl ?_
          refine Z_blk k_X9_beginsStep 1 (pc' := 65) (lo' := [some (vI a0)]) (st' := [vI 1]) (M1 := M) rfl ?_
          cases h
          exact Z_ret ⟨Or.inr ⟨rfl, Or.inr rfl⟩, _, rfl⟩ rfl
        · replace h := of_neg hs3 h
          by_cases hs4 : a0 = 15
          · replace h := of_pos hs4 h
            refine Z_tabIn k_X9_beginsStep rfl 64 (off := 63) (by rw [hs4]; decide) (by rw [hs4]; decide) (by first | (rw [hs4]; done) | (rw [hs4]; rfl)) rfl ?_
            refine Z_blk k_X9_beginsStep 1 (pc' := 65) (lo' := [some (vI a0)]) (st' := [vI 1]) (M1 := M) rfl ?_
            cases h
            exact Z_ret ⟨Or.inr ⟨rfl, Or.inr rfl⟩, _, rfl⟩ rfl
          · replace h := of_neg hs4 h
            by_cases hs5 : a0 = 16
            · replace h := of_pos hs5 h
              refine Z_tabIn k_X9_beginsStep rfl 64 (off := 63) (by rw [hs5]; decide) (by rw [hs5]; decide) (by first | (rw [hs5]; done) | (rw [hs5]; rfl)) rfl ?_
              refine Z_blk k_X9_beginsStep 1 (pc' := 65) (lo' := [some (vI a0)]) (st' := [vI 1]) (M1 := M) rfl ?_
              cases h
              exact Z_ret ⟨Or.inr ⟨rfl, Or.inr rfl⟩, _, rfl⟩ rfl
            · replace h := of_neg hs5 h
              by_cases hs6 : a0 = 17
              · replace h := of_pos hs6 h
                refine Z_tabIn k_X9_beginsStep rfl 64 (off := 63) (by rw [hs6]; decide) (by rw [hs6]; decide) (by first | (rw [hs6]; done) | (rw [hs6]; rfl)) rfl ?_
                refine Z_blk k_X9_beginsStep 1 (pc' := 65) (lo' := [some (vI a0)]) (st' := [vI 1]) (M1 := M) rfl ?_
                cases h
                exact Z_ret ⟨Or.inr ⟨rfl, Or.inr rfl⟩, _, rfl⟩ rfl
              · replace h := of_neg hs6 h
                by_cases hs7 : a0 = 18
                · replace h := of_pos hs7 h
                  refine Z_tabIn k_X9_beginsStep rfl 66 (off := 65) (by rw [hs7]; decide) (by rw [hs7]; decide) (by first | (rw [hs7]; done) | (rw [hs7]; rfl)) rfl ?_
                  refine Z_blk k_X9_beginsStep 1 (pc' := 67) (lo' := [some (vI a0)]) (st' := [vI 0]) (M1 := M) rfl ?_
                  cases h
                  exact Z_ret ⟨Or.inr ⟨rfl, Or.inl rfl⟩, _, rfl⟩ rfl
                · replace h := of_neg hs7 h
                  by_cases hs8 : a0 = 19
                  · replace h := of_pos hs8 h
                    refine Z_tabIn k_X9_beginsStep rfl 66 (off := 65) (by rw [hs8]; decide) (by rw [hs8]; decide) (by first | (rw [hs8]; done) | (rw [hs8]; rfl)) rfl ?_
                    refine Z_blk k_X9_beginsStep 1 (pc' := 67) (lo' := [some (vI a0)]) (st' := [vI 0]) (M1 := M) rfl ?_
                    cases h
                    exact Z_ret ⟨Or.inr ⟨rfl, Or.inl rfl⟩, _, rfl⟩ rfl
                  · replace h := of_neg hs8 h
                    by_cases hs9 : a0 = 20
                    · replace h := of_pos hs9 h
                      refine Z_tabIn k_X9_beginsStep rfl 64 (off := 63) (by rw [hs9]; decide) (by rw [hs9]; decide) (by first | (rw [hs9]; done) | (rw [hs9]; rfl)) rfl ?_
                      refine Z_blk k_X9_beginsStep 1 (pc' := 65) (lo' := [some (vI a0)]) (st' := [vI 1]) (M1 := M) rfl ?_
                      cases h
                      exact Z_ret ⟨Or.inr ⟨rfl, Or.inr rfl⟩, _, rfl⟩ rfl
                    · replace h := of_neg hs9 h
                      by_cases hs10 : a0 = 21
                      · replace h := of_pos hs10 h
                        refine Z_tabIn k_X9_beginsStep rfl 66 (off := 65) (by rw [hs10]; decide) (by rw [hs10]; decide) (by first | (rw [hs10]; done) | (rw [hs10]; rfl)) rfl ?_
                        refine Z_blk k_X9_beginsStep 1 (pc' := 67) (lo' := [some (vI a0)]) (st' := [vI 0]) (M1 := M) rfl ?_
                        cases h
                        exact Z_ret ⟨Or.inr ⟨rfl, Or.inl rfl⟩, _, rfl⟩ rfl
                      · replace h := of_neg hs10 h
                        by_cases hs11 : a0 = 22
                        · replace h := of_pos hs11 h
                          refine Z_tabIn k_X9_beginsStep rfl 64 (off := 63) (by rw [hs11]; decide) (by rw [hs11]; decide) (by first | (rw [hs11]; done) | (rw [hs11]; rfl)) rfl ?_
                          refine Z_blk k_X9_beginsStep 1 (pc' := 65) (lo' := [some (vI a0)]) (st' := [vI 1]) (M1 := M) rfl ?_
                          cases h
                          exact Z_ret ⟨Or.inr ⟨rfl, Or.inr rfl⟩, _, rfl⟩ rfl
                        · replace h := of_neg hs11 h
                          refine Z_tabOut k_X9_beginsStep rfl 66 (by omega) rfl ?_
                          refine Z_blk k_X9_beginsStep 1 (pc' := 67) (lo' := [some (vI a0)]) (st' := [vI 0]) (M1 := M) rfl ?_
                          cases h
                          exact Z_ret ⟨Or.inr ⟨rfl, Or.inl rfl⟩, _, rfl⟩ rfl
theorem l_9_96 : zhas 3234 (Jvm.Cond.methodLink "BellPullHouse$YearsReader" 96 yX5_takeNumber) = true := by decide +kernel
def f_X9_readNumber (a2 : Int) (a3 : Int) (M : AM) : Option (Int × AM) := (f_X5_takeNumber 1 a3 M).bind fun x1 => if 0 ≤ a2 ∧ a2 < 60 then (zlet (am_upd x1.2 58 (Int.toNat a2) x1.1) fun M3 => if M3 58 (Int.toNat a2) = (-1) then some (0, M3) else some (1, M3)) else none
theorem e_X9_readNumber {Y : List (Nat × Nat)} (d : Nat) (a2 : Int) (a3 : Int) (M : AM) (x : Int) (N : AM) (h : f_X9_readNumber a2 a3 M = some (x, N)) : Ev Y (d + 4) m_X9_readNumber 0 [some (vR 20 15 0), some (vR 53 18 0), some (vI a2), some (vI a3)] [] M (some (vI x)) N := by
  unfold f_X9_readNumber at h
  refine Z_blk k_X9_readNumber 6 (pc' := 8) (lo' := [some (vR 20 15 0), some (vR 53 18 0), some (vI a2), some (vI a3)]) (st' := [vI a3, vI 1, vR 20 15 0, vI a2, vR 58 0 60]) (M1 := M) rfl ?_
  obtain ⟨x1, hx1, h⟩ := Option.bind_eq_some_iff.mp h
  refine Z_callV8 k_X9_readNumber k_X5_takeNumber rfl rfl (l_9_96) (ci := 5) rfl [vI 1, vI a3] [vI a2, vR 58 0 60] rfl rfl (Nat.le_of_ble_eq_true rfl) (Nat.le_of_ble_eq_true rfl) (e_X5_takeNumber (d + 0) 1 a3 M _ _ hx1) ?_
  obtain ⟨hc2, h⟩ := of_grd h
  obtain ⟨M3, eM3, h⟩ := of_zlet h
  refine Z_one k_X9_readNumber rfl (pc' := 12) (lo' := [some (vR 20 15 0), some (vR 53 18 0), some (vI a2), some (vI a3)]) (st' := []) (M1 := M3) (by rw [eM3]; exact if_pos hc2) ?_
  refine Z_blk k_X9_readNumber 3 (pc' := 17) (lo' := [some (vR 20 15 0), some (vR 53 18 0), some (vI a2), some (vI a3)]) (st' := [vI a2, vR 58 0 60]) (M1 := M3) rfl ?_
  refine Z_one k_X9_readNumber rfl (pc' := 18) (lo' := [some (vR 20 15 0), some (vR 53 18 0), some (vI a2), some (vI a3)]) (st' := [vI (M3 58 (Int.toNat a2))]) (M1 := M3) (if_pos hc2) ?_
  refine Z_blk k_X9_readNumber 1 (pc' := 19) (lo' := [some (vR 20 15 0), some (vR 53 18 0), some (vI a2), some (vI a3)]) (st' := [vI (-1), vI (M3 58 (Int.toNat a2))]) (M1 := M3) rfl ?_
  refine Z_icmp k_X9_readNumber rfl 26 rfl (fun hc => ?_) (fun hc => ?_)
  · replace h := of_pos hc h
    refine Z_blk k_X9_readNumber 1 (pc' := 27) (lo' := [some (vR 20 15 0), some (vR 53 18 0), some (vI a2), some (vI a3)]) (st' := [vI 0]) (M1 := M3) rfl ?_
    cases h
    exact Z_ret ⟨Or.inr ⟨rfl, Or.inl rfl⟩, _, rfl⟩ rfl
  · replace h := of_neg hc h
    refine Z_blk k_X9_readNumber 2 (pc' := 27) (lo' := [some (vR 20 15 0), some (vR 53 18 0), some (vI a2), some (vI a3)]) (st' := [vI 1]) (M1 := M3) rfl ?_
    cases h
    exact Z_ret ⟨Or.inr ⟨rfl, Or.inr rfl⟩, _, rfl⟩ rfl
theorem l_9_100 : zhas 4002 (Jvm.Cond.methodLink "BellPullHouse$YearsReader" 100 yX5_isName) = true := by decide +kernel
def f_X9_readThing (a2 : Int) (a3 : Int) (M : AM) : Option (Int × AM) := (f_X5_isName M).bind fun x1 => if ¬ x1.1 = 0 then (if ¬ a3 = (-1) then (if 0 ≤ a2 ∧ a2 < 60 then (zlet (am_upd x1.2 56 (Int.toNat a2) a3) fun M3 => (f_X5_advance M3).bind fun x4 => some (1, x4)) else none) else ((f_X5_refuse 3 x1.2).bind fun x5 => if x5.1 = 0 ∨ x5.1 = 1 then some (x5.1, x5.2) else none)) else ((f_X5_refuse 2 x1.2).bind fun x7 => if x7.1 = 0 ∨ x7.1 = 1 then some (x7.1, x7.2) else none)
theorem e_X9_readThing {Y : List (Nat × Nat)} (d : Nat) (a2 : Int) (a3 : Int) (M : AM) (x : Int) (N : AM) (h : f_X9_readThing a2 a3 M = some (x, N)) : Ev Y (d + 3) m_X9_readThing 0 [some (vR 20 15 0), some (vR 53 18 0), some (vI a2), some (vI a3)] [] M (some (vI x)) N := by
  unfold f_X9_readThing at h
  refine Z_blk k_X9_readThing 1 (pc' := 1) (lo' := [some (vR 20 15 0), some (vR 53 18 0), some (vI a2), some (vI a3)]) (st' := [vR 20 15 0]) (M1 := M) rfl ?_
  obtain ⟨x1, hx1, h⟩ := Option.bind_eq_some_iff.mp h
  refine Z_callV8 k_X9_readThing k_X5_isName rfl rfl (l_9_100) (ci := 5) rfl [] [] rfl rfl (Nat.le_of_ble_eq_true rfl) (Nat.le_of_ble_eq_true rfl) (e_X5_isName (d + 2) M _ _ hx1) ?_
  refine Z_if k_X9_readThing rfl 13 rfl (fun hc => ?_) (fun hc => ?_)
  · replace h := of_pos hc h
    refine Z_blk k_X9_readThing 2 (pc' := 15) (lo' := [some (vR 20 15 0), some (vR 53 18 0), some (vI a2), some (vI a3)]) (st' := [vI (-1), vI a3]) (M1 := x1.2) rfl ?_
    refine Z_icmp k_X9_readThing rfl 24 rfl (fun hc => ?_) (fun hc => ?_)
    · replace h := of_pos hc h
      refine Z_blk k_X9_readThing 4 (pc' := 30) (lo' := [some (vR 20 15 0), some (vR 53 18 0), some (vI a2), some (vI a3)]) (st' := [vI a3, vI a2, vR 56 0 60]) (M1 := x1.2) rfl ?_
      obtain ⟨hc2, h⟩ := of_grd h
      obtain ⟨M3, eM3, h⟩ := of_zlet h
      refine Z_one k_X9_readThing rfl (pc' := 31) (lo' := [some (vR 20 15 0), some (vR 53 18 0), some (vI a2), some (vI a3)]) (st' := []) (M1 := M3) (by rw [eM3]; exact if_pos hc2) ?_
      refine Z_blk k_X9_readThing 1 (pc' := 32) (lo' := [some (vR 20 15 0), some (vR 53 18 0), some (vI a2), some (vI a3)]) (st' := [vR 20 15 0]) (M1 := M3) rfl ?_
      obtain ⟨x4, hx4, h⟩ := Option.bind_eq_some_iff.mp h
      refine Z_callV8 k_X9_readThing k_X5_advance rfl rfl (l_9_48) (ci := 5) rfl [] [] rfl rfl (Nat.le_of_ble_eq_true rfl) (Nat.le_of_ble_eq_true rfl) (e_X5_advance (d + 0) M3 _ hx4) ?_
      refine Z_blk k_X9_readThing 1 (pc' := 36) (lo' := [some (vR 20 15 0), some (vR 53 18 0), some (vI a2), some (vI a3)]) (st' := [vI 1]) (M1 := x4) rfl ?_
      cases h
      exact Z_ret ⟨Or.inr ⟨rfl, Or.inr rfl⟩, _, rfl⟩ rfl
    · replace h := of_neg hc h
      refine Z_blk k_X9_readThing 2 (pc' := 20) (lo' := [some (vR 20 15 0), some (vR 53 18 0), some (vI a2), some (vI a3)]) (st' := [vI 3, vR 20 15 0]) (M1 := x1.2) rfl ?_
      obtain ⟨x5, hx5, h⟩ := Option.bind_eq_some_iff.mp h
      refine Z_callV8 k_X9_readThing k_X5_refuse rfl rfl (l_9_40) (ci := 5) rfl [vI 3] [] rfl rfl (Nat.le_of_ble_eq_true rfl) (Nat.le_of_ble_eq_true rfl) (e_X5_refuse (d + 2) 3 x1.2 _ _ hx5) ?_
      obtain ⟨hc6, h⟩ := of_grd h
      cases h
      exact Z_ret ⟨Or.inr ⟨rfl, hc6⟩, _, rfl⟩ rfl
  · replace h := of_neg hc h
    refine Z_blk k_X9_readThing 2 (pc' := 9) (lo' := [some (vR 20 15 0), some (vR 53 18 0), some (vI a2), some (vI a3)]) (st' := [vI 2, vR 20 15 0]) (M1 := x1.2) rfl ?_
    obtain ⟨x7, hx7, h⟩ := Option.bind_eq_some_iff.mp h
    refine Z_callV8 k_X9_readThing k_X5_refuse rfl rfl (l_9_40) (ci := 5) rfl [vI 2] [] rfl rfl (Nat.le_of_ble_eq_true rfl) (Nat.le_of_ble_eq_true rfl) (e_X5_refuse (d + 2) 2 x1.2 _ _ hx7) ?_
    obtain ⟨hc8, h⟩ := of_grd h
    cases h
    exact Z_ret ⟨Or.inr ⟨rfl, hc8⟩, _, rfl⟩ rfl
theorem l_9_85 : zhas 3239 (Jvm.Cond.methodLink "BellPullHouse$YearsReader" 85 yX9_readThing) = true := by decide +kernel
theorem l_9_109 : zhas 4006 (Jvm.Cond.methodLink "BellPullHouse$YearsReader" 109 yX1_findCouple) = true := by decide +kernel
theorem l_9_112 : zhas 4010 (Jvm.Cond.methodLink "BellPullHouse$YearsReader" 112 yX5_isSign) = true := by decide +kernel
def f_X9_readTest_106 (a3 : Int) (M : AM) : Option (Int × AM) := if 0 ≤ a3 ∧ a3 < 60 then (zlet (am_upd M 57 (Int.toNat a3) (M 20 4)) fun M2 => (f_X5_advance M2).bind fun x3 => (f_X5_takeNumber 0 9 x3).bind fun x4 => zlet (am_upd x4.2 58 (Int.toNat a3) x4.1) fun M5 => if M5 58 (Int.toNat a3) = (-1) then some (0, M5) else some (1, M5)) else none
theorem e_X9_readTest_106 {Y : List (Nat × Nat)} (d : Nat) (a3 : Int) (M : AM) (x : Int) (N : AM) (h : f_X9_readTest_106 a3 M = some (x, N)) : Ev Y (d + 4) m_X9_readTest 106 [some (vR 20 15 0), none, some (vR 53 18 0), some (vI a3), none] [] M (some (vI x)) N := by
  unfold f_X9_readTest_106 at h
  refine Z_blk k_X9_readTest 5 (pc' := 115) (lo' := [some (vR 20 15 0), none, some (vR 53 18 0), some (vI a3), none]) (st' := [vI (M 20 4), vI a3, vR 57 0 60]) (M1 := M) rfl ?_
  obtain ⟨hc1, h⟩ := of_grd h
  obtain ⟨M2, eM2, h⟩ := of_zlet h
  refine Z_one k_X9_readTest rfl (pc' := 116) (lo' := [some (vR 20 15 0), none, some (vR 53 18 0), some (vI a3), none]) (st' := []) (M1 := M2) (by rw [eM2]; exact if_pos hc1) ?_
  refine Z_blk k_X9_readTest 1 (pc' := 117) (lo' := [some (vR 20 15 0), none, some (vR 53 18 0), some (vI a3), none]) (st' := [vR 20 15 0]) (M1 := M2) rfl ?_
  obtain ⟨x3, hx3, h⟩ := Option.bind_eq_some_iff.mp h
  refine Z_callV8 k_X9_readTest k_X5_advance rfl rfl (l_9_48) (ci := 5) rfl [] [] rfl rfl (Nat.le_of_ble_eq_true rfl) (Nat.le_of_ble_eq_true rfl) (e_X5_advance (d + 1) M2 _ hx3) ?_
  refine Z_blk k_X9_readTest 6 (pc' := 129) (lo' := [some (vR 20 15 0), none, some (vR 53 18 0), some (vI a3), none]) (st' := [vI 9, vI 0, vR 20 15 0, vI a3, vR 58 0 60]) (M1 := x3) rfl ?_
  obtain ⟨x4, hx4, h⟩ := Option.bind_eq_some_iff.mp h
  refine Z_callV8 k_X9_readTest k_X5_takeNumber rfl rfl (l_9_96) (ci := 5) rfl [vI 0, vI 9] [vI a3, vR 58 0 60] rfl rfl (Nat.le_of_ble_eq_true rfl) (Nat.le_of_ble_eq_true rfl) (e_X5_takeNumber (d + 0) 0 9 x3 _ _ hx4) ?_
  obtain ⟨M5, eM5, h⟩ := of_zlet h
  refine Z_one k_X9_readTest rfl (pc' := 133) (lo' := [some (vR 20 15 0), none, some (vR 53 18 0), some (vI a3), none]) (st' := []) (M1 := M5) (by rw [eM5]; exact if_pos hc1) ?_
  refine Z_blk k_X9_readTest 3 (pc' := 138) (lo' := [some (vR 20 15 0), none, some (vR 53 18 0), some (vI a3), none]) (st' := [vI a3, vR 58 0 60]) (M1 := M5) rfl ?_
  refine Z_one k_X9_readTest rfl (pc' := 139) (lo' := [some (vR 20 15 0), none, some (vR 53 18 0), some (vI a3), none]) (st' := [vI (M5 58 (Int.toNat a3))]) (M1 := M5) (if_pos hc1) ?_
  refine Z_blk k_X9_readTest 1 (pc' := 140) (lo' := [some (vR 20 15 0), none, some (vR 53 18 0), some (vI a3), none]) (st' := [vI (-1), vI (M5 58 (Int.toNat a3))]) (M1 := M5) rfl ?_
  refine Z_icmp k_X9_readTest rfl 147 rfl (fun hc => ?_) (fun hc => ?_)
  · replace h := of_pos hc h
    refine Z_blk k_X9_readTest 1 (pc' := 148) (lo' := [some (vR 20 15 0), none, some (vR 53 18 0), some (vI a3), none]) (st' := [vI 0]) (M1 := M5) rfl ?_
    cases h
    exact Z_ret ⟨Or.inr ⟨rfl, Or.inl rfl⟩, _, rfl⟩ rfl
  · replace h := of_neg hc h
    refine Z_blk k_X9_readTest 2 (pc' := 148) (lo' := [some (vR 20 15 0), none, some (vR 53 18 0), some (vI a3), none]) (st' := [vI 1]) (M1 := M5) rfl ?_
    cases h
    exact Z_ret ⟨Or.inr ⟨rfl, Or.inr rfl⟩, _, rfl⟩ rfl
def f_X9_readTest_33 (a3 : Int) (a4 : Int) (M : AM) : Option (Int × AM) := if 0 ≤ a3 ∧ a3 < 60 then (zlet (am_upd M 55 (Int.toNat a3) a4) fun M2 => (f_X5_advance M2).bind fun x3 => (f_X1_findCouple 23 (x3 20 2) x3).bind fun x4 => (f_X9_readThing a3 x4.1 x4.2).bind fun x5 => if ¬ x5.1 = 0 then (if a4 = 10 then ((f_X5_isSign 60 x5.2).bind fun x6 => if ¬ x6.1 = 0 then f_X9_readTest_106 a3 x6.2 else ((f_X5_isSign 62 x6.2).bind fun x7 => if ¬ x7.1 = 0 then f_X9_readTest_106 a3 x7.2 else ((f_X5_isSign 61 x7.2).bind fun x8 => if ¬ x8.1 = 0 then f_X9_readTest_106 a3 x8.2 else ((f_X5_refuse 2 x8.2).bind fun x9 => if x9.1 = 0 ∨ x9.1 = 1 then some (x9.1, x9.2) else none)))) else some (1, x5.2)) else some (0, x5.2)) else none
theorem e_X9_readTest_33 {Y : List (Nat × Nat)} (d : Nat) (a3 : Int) (a4 : Int) (M : AM) (x : Int) (N : AM) (h : f_X9_readTest_33 a3 a4 M = some (x, N)) : Ev Y (d + 4) m_X9_readTest 33 [some (vR 20 15 0), some (vR 23 11 0), some (vR 53 18 0), some (vI a3), some (vI a4)] [] M (some (vI x)) N := by
  unfold f_X9_readTest_33 at h
  refine Z_blk k_X9_readTest 4 (pc' := 40) (lo' := [some (vR 20 15 0), some (vR 23 11 0), some (vR 53 18 0), some (vI a3), some (vI a4)]) (st' := [vI a4, vI a3, vR 55 0 60]) (M1 := M) rfl ?_
  obtain ⟨hc1, h⟩ := of_grd h
  obtain ⟨M2, eM2, h⟩ := of_zlet h
  refine Z_one k_X9_readTest rfl (pc' := 41) (lo' := [some (vR 20 15 0), some (vR 23 11 0), some (vR 53 18 0), some (vI a3), some (vI a4)]) (st' := []) (M1 := M2) (by rw [eM2]; exact if_pos hc1) ?_
  refine Z_blk k_X9_readTest 1 (pc' := 42) (lo' := [some (vR 20 15 0), some (vR 23 11 0), some (vR 53 18 0), some (vI a3), some (vI a4)]) (st' := [vR 20 15 0]) (M1 := M2) rfl ?_
  obtain ⟨x3, hx3, h⟩ := Option.bind_eq_some_iff.mp h
  refine Z_callV8 k_X9_readTest k_X5_advance rfl rfl (l_9_48) (ci := 5) rfl [] [] rfl rfl (Nat.le_of_ble_eq_true rfl) (Nat.le_of_ble_eq_true rfl) (e_X5_advance (d + 1) M2 _ hx3) ?_
  refine Z_blk k_X9_readTest 6 (pc' := 53) (lo' := [some (vR 20 15 0), some (vR 23 11 0), some (vR 53 18 0), some (vI a3), some (vI a4)]) (st' := [vL (x3 20 2), vR 23 11 0, vI a3, vR 53 18 0, vR 20 15 0]) (M1 := x3) rfl ?_
  obtain ⟨x4, hx4, h⟩ := Option.bind_eq_some_iff.mp h
  refine Z_callV8 k_X9_readTest k_X1_findCouple rfl rfl (l_9_109) (ci := 1) rfl [vL (x3 20 2)] [vI a3, vR 53 18 0, vR 20 15 0] rfl rfl (Nat.le_of_ble_eq_true rfl) (Nat.le_of_ble_eq_true rfl) (e_X1_findCouple (d + 2) 23 (x3 20 2) x3 _ _ hx4) ?_
  obtain ⟨x5, hx5, h⟩ := Option.bind_eq_some_iff.mp h
  refine Z_callS8 k_X9_readTest k_X9_readThing rfl rfl (l_9_85) [vR 20 15 0, vR 53 18 0, vI a3, vI x4.1] [] rfl rfl (Nat.le_of_ble_eq_true rfl) (Nat.le_of_ble_eq_true rfl) (e_X9_readThing (d + 0) a3 x4.1 x4.2 _ _ hx5) ?_
  refine Z_if k_X9_readTest rfl 64 rfl (fun hc => ?_) (fun hc => ?_)
  · replace h := of_pos hc h
    refine Z_blk k_X9_readTest 2 (pc' := 68) (lo' := [some (vR 20 15 0), some (vR 23 11 0), some (vR 53 18 0), some (vI a3), some (vI a4)]) (st' := [vI 10, vI a4]) (M1 := x5.2) rfl ?_
    refine Z_icmp k_X9_readTest rfl 73 rfl (fun hc => ?_) (fun hc => ?_)
    · replace h := of_pos hc h
      refine Z_blk k_X9_readTest 2 (pc' := 76) (lo' := [some (vR 20 15 0), some (vR 23 11 0), some (vR 53 18 0), some (vI a3), some (vI a4)]) (st' := [vI 60, vR 20 15 0]) (M1 := x5.2) rfl ?_
      obtain ⟨x6, hx6, h⟩ := Option.bind_eq_some_iff.mp h
      refine Z_callV8 k_X9_readTest k_X5_isSign rfl rfl (l_9_112) (ci := 5) rfl [vI 60] [] rfl rfl (Nat.le_of_ble_eq_true rfl) (Nat.le_of_ble_eq_true rfl) (e_X5_isSign (d + 3) 60 x5.2 _ _ hx6) ?_
      refine Z_if k_X9_readTest rfl 106 rfl (fun hc => ?_) (fun hc => ?_)
      · replace h := of_pos hc h
        refine Z_mask [true, false, true, true, false] (lo0 := [some (vR 20 15 0), none, some (vR 53 18 0), some (vI a3), none]) rfl ?_
        exact e_X9_readTest_106 d a3 x6.2 _ _ h
      · replace h := of_neg hc h
        refine Z_blk k_X9_readTest 2 (pc' := 85) (lo' := [some (vR 20 15 0), some (vR 23 11 0), some (vR 53 18 0), some (vI a3), some (vI a4)]) (st' := [vI 62, vR 20 15 0]) (M1 := x6.2) rfl ?_
        obtain ⟨x7, hx7, h⟩ := Option.bind_eq_some_iff.mp h
        refine Z_callV8 k_X9_readTest k_X5_isSign rfl rfl (l_9_112) (ci := 5) rfl [vI 62] [] rfl rfl (Nat.le_of_ble_eq_true rfl) (Nat.le_of_ble_eq_true rfl) (e_X5_isSign (d + 3) 62 x6.2 _ _ hx7) ?_
        refine Z_if k_X9_readTest rfl 106 rfl (fun hc => ?_) (fun hc => ?_)
        · replace h := of_pos hc h
          refine Z_mask [true, false, true, true, false] (lo0 := [some (vR 20 15 0), none, some (vR 53 18 0), some (vI a3), none]) rfl ?_
          exact e_X9_readTest_106 d a3 x7.2 _ _ h
        · replace h := of_neg hc h
          refine Z_blk k_X9_readTest 2 (pc' := 94) (lo' := [some (vR 20 15 0), some (vR 23 11 0), some (vR 53 18 0), some (vI a3), some (vI a4)]) (st' := [vI 61, vR 20 15 0]) (M1 := x7.2) rfl ?_
          obtain ⟨x8, hx8, h⟩ := Option.bind_eq_some_iff.mp h
          refine Z_callV8 k_X9_readTest k_X5_isSign rfl rfl (l_9_112) (ci := 5) rfl [vI 61] [] rfl rfl (Nat.le_of_ble_eq_true rfl) (Nat.le_of_ble_eq_true rfl) (e_X5_isSign (d + 3) 61 x7.2 _ _ hx8) ?_
          refine Z_if k_X9_readTest rfl 106 rfl (fun hc => ?_) (fun hc => ?_)
          · replace h := of_pos hc h
            refine Z_mask [true, false, true, true, false] (lo0 := [some (vR 20 15 0), none, some (vR 53 18 0), some (vI a3), none]) rfl ?_
            exact e_X9_readTest_106 d a3 x8.2 _ _ h
          · replace h := of_neg hc h
            refine Z_blk k_X9_readTest 2 (pc' := 102) (lo' := [some (vR 20 15 0), some (vR 23 11 0), some (vR 53 18 0), some (vI a3), some (vI a4)]) (st' := [vI 2, vR 20 15 0]) (M1 := x8.2) rfl ?_
            obtain ⟨x9, hx9, h⟩ := Option.bind_eq_some_iff.mp h
            refine Z_callV8 k_X9_readTest k_X5_refuse rfl rfl (l_9_40) (ci := 5) rfl [vI 2] [] rfl rfl (Nat.le_of_ble_eq_true rfl) (Nat.le_of_ble_eq_true rfl) (e_X5_refuse (d + 3) 2 x8.2 _ _ hx9) ?_
            obtain ⟨hc10, h⟩ := of_grd h
            cases h
            exact Z_ret ⟨Or.inr ⟨rfl, hc10⟩, _, rfl⟩ rfl
    · replace h := of_neg hc h
      refine Z_blk k_X9_readTest 1 (pc' := 72) (lo' := [some (vR 20 15 0), some (vR 23 11 0), some (vR 53 18 0), some (vI a3), some (vI a4)]) (st' := [vI 1]) (M1 := x5.2) rfl ?_
      cases h
      exact Z_ret ⟨Or.inr ⟨rfl, Or.inr rfl⟩, _, rfl⟩ rfl
  · replace h := of_neg hc h
    refine Z_blk k_X9_readTest 1 (pc' := 63) (lo' := [some (vR 20 15 0), some (vR 23 11 0), some (vR 53 18 0), some (vI a3), some (vI a4)]) (st' := [vI 0]) (M1 := x5.2) rfl ?_
    cases h
    exact Z_ret ⟨Or.inr ⟨rfl, Or.inl rfl⟩, _, rfl⟩ rfl
def f_X9_readTest (a3 : Int) (M : AM) : Option (Int × AM) := if M 20 3 = 18 then f_X9_readTest_33 a3 (M 20 3) M else (if M 20 3 = 10 then f_X9_readTest_33 a3 (M 20 3) M else (if M 20 3 = 19 then f_X9_readTest_33 a3 (M 20 3) M else ((f_X5_refuse 2 M).bind fun x1 => if x1.1 = 0 ∨ x1.1 = 1 then some (x1.1, x1.2) else none)))
theorem e_X9_readTest {Y : List (Nat × Nat)} (d : Nat) (a3 : Int) (M : AM) (x : Int) (N : AM) (h : f_X9_readTest a3 M = some (x, N)) : Ev Y (d + 4) m_X9_readTest 0 [some (vR 20 15 0), some (vR 23 11 0), some (vR 53 18 0), some (vI a3), none] [] M (some (vI x)) N := by
  unfold f_X9_readTest at h
  refine Z_blk k_X9_readTest 5 (pc' := 10) (lo' := [some (vR 20 15 0), some (vR 23 11 0), some (vR 53 18 0), some (vI a3), some (vI (M 20 3))]) (st' := [vI 18, vI (M 20 3)]) (M1 := M) rfl ?_
  refine Z_icmp k_X9_readTest rfl 33 rfl (fun hc => ?_) (fun hc => ?_)
  · replace h := of_pos hc h
    refine Z_mask [true, true, true, true, true] (lo0 := [some (vR 20 15 0), some (vR 23 11 0), some (vR 53 18 0), some (vI a3), some (vI (M 20 3))]) rfl ?_
    exact e_X9_readTest_33 d a3 (M 20 3) M _ _ h
  · replace h := of_neg hc h
    refine Z_blk k_X9_readTest 2 (pc' := 17) (lo' := [some (vR 20 15 0), some (vR 23 11 0), some (vR 53 18 0), some (vI a3), some (vI (M 20 3))]) (st' := [vI 10, vI (M 20 3)]) (M1 := M) rfl ?_
    refine Z_icmp k_X9_readTest rfl 33 rfl (fun hc => ?_) (fun hc => ?_)
    · replace h := of_pos hc h
      refine Z_mask [true, true, true, true, true] (lo0 := [some (vR 20 15 0), some (vR 23 11 0), some (vR 53 18 0), some (vI a3), some (vI (M 20 3))]) rfl ?_
      exact e_X9_readTest_33 d a3 (M 20 3) M _ _ h
    · replace h := of_neg hc h
      refine Z_blk k_X9_readTest 2 (pc' := 24) (lo' := [some (vR 20 15 0), some (vR 23 11 0), some (vR 53 18 0), some (vI a3), some (vI (M 20 3))]) (st' := [vI 19, vI (M 20 3)]) (M1 := M) rfl ?_
      refine Z_icmp k_X9_readTest rfl 33 rfl (fun hc => ?_) (fun hc => ?_)
      · replace h := of_pos hc h
        refine Z_mask [true, true, true, true, true] (lo0 := [some (vR 20 15 0), some (vR 23 11 0), some (vR 53 18 0), some (vI a3), some (vI (M 20 3))]) rfl ?_
        exact e_X9_readTest_33 d a3 (M 20 3) M _ _ h
      · replace h := of_neg hc h
        refine Z_blk k_X9_readTest 2 (pc' := 29) (lo' := [some (vR 20 15 0), some (vR 23 11 0), some (vR 53 18 0), some (vI a3), some (vI (M 20 3))]) (st' := [vI 2, vR 20 15 0]) (M1 := M) rfl ?_
        obtain ⟨x1, hx1, h⟩ := Option.bind_eq_some_iff.mp h
        refine Z_callV8 k_X9_readTest k_X5_refuse rfl rfl (l_9_40) (ci := 5) rfl [vI 2] [] rfl rfl (Nat.le_of_ble_eq_true rfl) (Nat.le_of_ble_eq_true rfl) (e_X5_refuse (d + 3) 2 M _ _ hx1) ?_
        obtain ⟨hc2, h⟩ := of_grd h
        cases h
        exact Z_ret ⟨Or.inr ⟨rfl, hc2⟩, _, rfl⟩ rfl
theorem l_9_62 : zhas 3224 (Jvm.Cond.methodLink "BellPullHouse$YearsReader" 62 yX9_beginsStep) = true := by decide +kernel
theorem l_9_68 : zhas 3227 (Jvm.Cond.methodLink "BellPullHouse$YearsReader" 68 yX8_openRow) = true := by decide +kernel
theorem l_9_71 : zhas 3231 (Jvm.Cond.methodLink "BellPullHouse$YearsReader" 71 yX9_readNumber) = true := by decide +kernel
theorem l_9_79 : zhas 3235 (Jvm.Cond.methodLink "BellPullHouse$YearsReader" 79 yX1_findWire) = true := by decide +kernel
theorem l_9_88 : zhas 4003 (Jvm.Cond.methodLink "BellPullHouse$YearsReader" 88 yX9_readTest) = true := by decide +kernel
def f_X9_readStep_196 (a6 : Int) (M : AM) : Option (Int × AM) := if a6 = 0 then some (0, M) else ((f_X5_takeSemicolon M).bind fun x1 => if x1.1 = 0 then some (0, x1.2) else some (1, x1.2))
theorem e_X9_readStep_196 {Y : List (Nat × Nat)} (d : Nat) (a6 : Int) (M : AM) (x : Int) (N : AM) (h : f_X9_readStep_196 a6 M = some (x, N)) : Ev Y (d + 5) m_X9_readStep 196 [some (vR 20 15 0), none, none, none, none, none, some (vI a6)] [] M (some (vI x)) N := by
  unfold f_X9_readStep_196 at h
  refine Z_blk k_X9_readStep 1 (pc' := 198) (lo' := [some (vR 20 15 0), none, none, none, none, none, some (vI a6)]) (st' := [vI a6]) (M1 := M) rfl ?_
  refine Z_if k_X9_readStep rfl 212 rfl (fun hc => ?_) (fun hc => ?_)
  · replace h := of_pos hc h
    refine Z_blk k_X9_readStep 1 (pc' := 213) (lo' := [some (vR 20 15 0), none, none, none, none, none, some (vI a6)]) (st' := [vI 0]) (M1 := M) rfl ?_
    cases h
    exact Z_ret ⟨Or.inr ⟨rfl, Or.inl rfl⟩, _, rfl⟩ rfl
  · replace h := of_neg hc h
    refine Z_blk k_X9_readStep 1 (pc' := 202) (lo' := [some (vR 20 15 0), none, none, none, none, none, some (vI a6)]) (st' := [vR 20 15 0]) (M1 := M) rfl ?_
    obtain ⟨x1, hx1, h⟩ := Option.bind_eq_some_iff.mp h
    refine Z_callV8 k_X9_readStep k_X5_takeSemicolon rfl rfl (l_9_58) (ci := 5) rfl [] [] rfl rfl (Nat.le_of_ble_eq_true rfl) (Nat.le_of_ble_eq_true rfl) (e_X5_takeSemicolon (d + 1) M _ _ hx1) ?_
    refine Z_if k_X9_readStep rfl 212 rfl (fun hc => ?_) (fun hc => ?_)
    · replace h := of_pos hc h
      refine Z_blk k_X9_readStep 1 (pc' := 213) (lo' := [some (vR 20 15 0), none, none, none, none, none, some (vI a6)]) (st' := [vI 0]) (M1 := x1.2) rfl ?_
      cases h
      exact Z_ret ⟨Or.inr ⟨rfl, Or.inl rfl⟩, _, rfl⟩ rfl
    · replace h := of_neg hc h
      refine Z_blk k_X9_readStep 2 (pc' := 213) (lo' := [some (vR 20 15 0), none, none, none, none, none, some (vI a6)]) (st' := [vI 1]) (M1 := x1.2) rfl ?_
      cases h
      exact Z_ret ⟨Or.inr ⟨rfl, Or.inr rfl⟩, _, rfl⟩ rfl
def f_X9_readStep_160 (a5 : Int) (M : AM) : Option (Int × AM) := (f_X1_findWire 23 (M 20 2) M).bind fun x1 => (f_X9_readThing a5 x1.1 x1.2).bind fun x2 => f_X9_readStep_196 x2.1 x2.2
theorem e_X9_readStep_160 {Y : List (Nat × Nat)} (d : Nat) (a5 : Int) (M : AM) (x : Int) (N : AM) (h : f_X9_readStep_160 a5 M = some (x, N)) : Ev Y (d + 5) m_X9_readStep 160 [some (vR 20 15 0), some (vR 23 11 0), some (vR 53 18 0), none, none, some (vI a5), none] [] M (some (vI x)) N := by
  unfold f_X9_readStep_160 at h
  refine Z_blk k_X9_readStep 6 (pc' := 169) (lo' := [some (vR 20 15 0), some (vR 23 11 0), some (vR 53 18 0), none, none, some (vI a5), none]) (st' := [vL (M 20 2), vR 23 11 0, vI a5, vR 53 18 0, vR 20 15 0]) (M1 := M) rfl ?_
  obtain ⟨x1, hx1, h⟩ := Option.bind_eq_some_iff.mp h
  refine Z_callV8 k_X9_readStep k_X1_findWire rfl rfl (l_9_79) (ci := 1) rfl [vL (M 20 2)] [vI a5, vR 53 18 0, vR 20 15 0] rfl rfl (Nat.le_of_ble_eq_true rfl) (Nat.le_of_ble_eq_true rfl) (e_X1_findWire (d + 3) 23 (M 20 2) M _ _ hx1) ?_
  obtain ⟨x2, hx2, h⟩ := Option.bind_eq_some_iff.mp h
  refine Z_callS8 k_X9_readStep k_X9_readThing rfl rfl (l_9_85) [vR 20 15 0, vR 53 18 0, vI a5, vI x1.1] [] rfl rfl (Nat.le_of_ble_eq_true rfl) (Nat.le_of_ble_eq_true rfl) (e_X9_readThing (d + 1) a5 x1.1 x1.2 _ _ hx2) ?_
  refine Z_blk k_X9_readStep 2 (pc' := 196) (lo' := [some (vR 20 15 0), some (vR 23 11 0), some (vR 53 18 0), none, none, some (vI a5), some (vI x2.1)]) (st' := []) (M1 := x2.2) rfl ?_
  refine Z_mask [true, false, false, false, false, false, true] (lo0 := [some (vR 20 15 0), none, none, none, none, none, some (vI x2.1)]) rfl ?_
  exact e_X9_readStep_196 d x2.1 x2.2 _ _ h
def f_X9_readStep_101 (a3 : Int) (a5 : Int) (M : AM) : Option (Int × AM) := (f_X5_advance M).bind fun x1 => if ¬ a3 = 11 then (if ¬ a3 = 20 then (if a3 = 14 then f_X9_readStep_160 a5 x1 else (if ¬ a3 = 15 then (if ¬ a3 = 17 then f_X9_readStep_196 1 x1 else ((f_X9_readTest a5 x1).bind fun x2 => f_X9_readStep_196 x2.1 x2.2)) else f_X9_readStep_160 a5 x1)) else ((f_X9_readNumber a5 99 x1).bind fun x3 => f_X9_readStep_196 x3.1 x3.2)) else ((f_X9_readNumber a5 40 x1).bind fun x4 => f_X9_readStep_196 x4.1 x4.2)
theorem e_X9_readStep_101 {Y : List (Nat × Nat)} (d : Nat) (a3 : Int) (a5 : Int) (M : AM) (x : Int) (N : AM) (h : f_X9_readStep_101 a3 a5 M = some (x, N)) : Ev Y (d + 5) m_X9_readStep 101 [some (vR 20 15 0), some (vR 23 11 0), some (vR 53 18 0), some (vI a3), none, some (vI a5), none] [] M (some (vI x)) N := by
  unfold f_X9_readStep_101 at h
  refine Z_blk k_X9_readStep 1 (pc' := 102) (lo' := [some (vR 20 15 0), some (vR 23 11 0), some (vR 53 18 0), some (vI a3), none, some (vI a5), none]) (st' := [vR 20 15 0]) (M1 := M) rfl ?_
  obtain ⟨x1, hx1, h⟩ := Option.bind_eq_some_iff.mp h
  refine Z_callV8 k_X9_readStep k_X5_advance rfl rfl (l_9_48) (ci := 5) rfl [] [] rfl rfl (Nat.le_of_ble_eq_true rfl) (Nat.le_of_ble_eq_true rfl) (e_X5_advance (d + 2) M _ hx1) ?_
  refine Z_blk k_X9_readStep 4 (pc' := 111) (lo' := [some (vR 20 15 0), some (vR 23 11 0), some (vR 53 18 0), some (vI a3), none, some (vI a5), some (vI 1)]) (st' := [vI 11, vI a3]) (M1 := x1) rfl ?_
  refine Z_icmp k_X9_readStep rfl 128 rfl (fun hc => ?_) (fun hc => ?_)
  · replace h := of_pos hc h
    refine Z_blk k_X9_readStep 2 (pc' := 131) (lo' := [some (vR 20 15 0), some (vR 23 11 0), some (vR 53 18 0), some (vI a3), none, some (vI a5), some (vI 1)]) (st' := [vI 20, vI a3]) (M1 := x1) rfl ?_
    refine Z_icmp k_X9_readStep rfl 148 rfl (fun hc => ?_) (fun hc => ?_)
    · replace h := of_pos hc h
      refine Z_blk k_X9_readStep 2 (pc' := 151) (lo' := [some (vR 20 15 0), some (vR 23 11 0), some (vR 53 18 0), some (vI a3), none, some (vI a5), some (vI 1)]) (st' := [vI 14, vI a3]) (M1 := x1) rfl ?_
      refine Z_icmp k_X9_readStep rfl 160 rfl (fun hc => ?_) (fun hc => ?_)
      · replace h := of_pos hc h
        refine Z_mask [true, true, true, false, false, true, false] (lo0 := [some (vR 20 15 0), some (vR 23 11 0), some (vR 53 18 0), none, none, some (vI a5), none]) rfl ?_
        exact e_X9_readStep_160 d a5 x1 _ _ h
      · replace h := of_neg hc h
        refine Z_blk k_X9_readStep 2 (pc' := 157) (lo' := [some (vR 20 15 0), some (vR 23 11 0), some (vR 53 18 0), some (vI a3), none, some (vI a5), some (vI 1)]) (st' := [vI 15, vI a3]) (M1 := x1) rfl ?_
        refine Z_icmp k_X9_readStep rfl 180 rfl (fun hc => ?_) (fun hc => ?_)
        · replace h := of_pos hc h
          refine Z_blk k_X9_readStep 2 (pc' := 183) (lo' := [some (vR 20 15 0), some (vR 23 11 0), some (vR 53 18 0), some (vI a3), none, some (vI a5), some (vI 1)]) (st' := [vI 17, vI a3]) (M1 := x1) rfl ?_
          refine Z_icmp k_X9_readStep rfl 196 rfl (fun hc => ?_) (fun hc => ?_)
          · replace h := of_pos hc h
            refine Z_mask [true, false, false, false, false, false, true] (lo0 := [some (vR 20 15 0), none, none, none, none, none, some (vI 1)]) rfl ?_
            exact e_X9_readStep_196 d 1 x1 _ _ h
          · replace h := of_neg hc h
            refine Z_blk k_X9_readStep 4 (pc' := 191) (lo' := [some (vR 20 15 0), some (vR 23 11 0), some (vR 53 18 0), some (vI a3), none, some (vI a5), some (vI 1)]) (st' := [vI a5, vR 53 18 0, vR 23 11 0, vR 20 15 0]) (M1 := x1) rfl ?_
            obtain ⟨x2, hx2, h⟩ := Option.bind_eq_some_iff.mp h
            refine Z_callS8 k_X9_readStep k_X9_readTest rfl rfl (l_9_88) [vR 20 15 0, vR 23 11 0, vR 53 18 0, vI a5] [] rfl rfl (Nat.le_of_ble_eq_true rfl) (Nat.le_of_ble_eq_true rfl) (e_X9_readTest (d + 0) a5 x1 _ _ hx2) ?_
            refine Z_blk k_X9_readStep 1 (pc' := 196) (lo' := [some (vR 20 15 0), some (vR 23 11 0), some (vR 53 18 0), some (vI a3), none, some (vI a5), some (vI x2.1)]) (st' := []) (M1 := x2.2) rfl ?_
            refine Z_mask [true, false, false, false, false, false, true] (lo0 := [some (vR 20 15 0), none, none, none, none, none, some (vI x2.1)]) rfl ?_
            exact e_X9_readStep_196 d x2.1 x2.2 _ _ h
        · replace h := of_neg hc h
          refine Z_mask [true, true, true, false, false, true, false] (lo0 := [some (vR 20 15 0), some (vR 23 11 0), some (vR 53 18 0), none, none, some (vI a5), none]) rfl ?_
          exact e_X9_readStep_160 d a5 x1 _ _ h
    · replace h := of_neg hc h
      refine Z_blk k_X9_readStep 4 (pc' := 140) (lo' := [some (vR 20 15 0), some (vR 23 11 0), some (vR 53 18 0), some (vI a3), none, some (vI a5), some (vI 1)]) (st' := [vI 99, vI a5, vR 53 18 0, vR 20 15 0]) (M1 := x1) rfl ?_
      obtain ⟨x3, hx3, h⟩ := Option.bind_eq_some_iff.mp h
      refine Z_callS8 k_X9_readStep k_X9_readNumber rfl rfl (l_9_71) [vR 20 15 0, vR 53 18 0, vI a5, vI 99] [] rfl rfl (Nat.le_of_ble_eq_true rfl) (Nat.le_of_ble_eq_true rfl) (e_X9_readNumber (d + 0) a5 99 x1 _ _ hx3) ?_
      refine Z_blk k_X9_readStep 2 (pc' := 196) (lo' := [some (vR 20 15 0), some (vR 23 11 0), some (vR 53 18 0), some (vI a3), none, some (vI a5), some (vI x3.1)]) (st' := []) (M1 := x3.2) rfl ?_
      refine Z_mask [true, false, false, false, false, false, true] (lo0 := [some (vR 20 15 0), none, none, none, none, none, some (vI x3.1)]) rfl ?_
      exact e_X9_readStep_196 d x3.1 x3.2 _ _ h
  · replace h := of_neg hc h
    refine Z_blk k_X9_readStep 4 (pc' := 120) (lo' := [some (vR 20 15 0), some (vR 23 11 0), some (vR 53 18 0), some (vI a3), none, some (vI a5), some (vI 1)]) (st' := [vI 40, vI a5, vR 53 18 0, vR 20 15 0]) (M1 := x1) rfl ?_
    obtain ⟨x4, hx4, h⟩ := Option.bind_eq_some_iff.mp h
    refine Z_callS8 k_X9_readStep k_X9_readNumber rfl rfl (l_9_71) [vR 20 15 0, vR 53 18 0, vI a5, vI 40] [] rfl rfl (Nat.le_of_ble_eq_true rfl) (Nat.le_of_ble_eq_true rfl) (e_X9_readNumber (d + 0) a5 40 x1 _ _ hx4) ?_
    refine Z_blk k_X9_readStep 2 (pc' := 196) (lo' := [some (vR 20 15 0), some (vR 23 11 0), some (vR 53 18 0), some (vI a3), none, some (vI a5), some (vI x4.1)]) (st' := []) (M1 := x4.2) rfl ?_
    refine Z_mask [true, false, false, false, false, false, true] (lo0 := [some (vR 20 15 0), none, none, none, none, none, some (vI x4.1)]) rfl ?_
    exact e_X9_readStep_196 d x4.1 x4.2 _ _ h
def f_X9_readStep_73 (a3 : Int) (a4 : Int) (M : AM) : Option (Int × AM) := zlet (am_upd M 53 1 (o_add (M 53 1) 1)) fun M1 => (f_X8_addRow 53 a3 M1).bind fun x2 => if a4 = 0 then f_X9_readStep_101 a3 x2.1 x2.2 else ((f_X8_openRow 53 x2.1 x2.2).bind fun x3 => f_X9_readStep_101 a3 x2.1 x3)
theorem e_X9_readStep_73 {Y : List (Nat × Nat)} (d : Nat) (a3 : Int) (a4 : Int) (M : AM) (x : Int) (N : AM) (h : f_X9_readStep_73 a3 a4 M = some (x, N)) : Ev Y (d + 5) m_X9_readStep 73 [some (vR 20 15 0), some (vR 23 11 0), some (vR 53 18 0), some (vI a3), some (vI a4), none, none] [] M (some (vI x)) N := by
  unfold f_X9_readStep_73 at h
  obtain ⟨M1, eM1, h⟩ := of_zlet h
  refine Z_blk k_X9_readStep 6 (pc' := 83) (lo' := [some (vR 20 15 0), some (vR 23 11 0), some (vR 53 18 0), some (vI a3), some (vI a4), none, none]) (st' := []) (M1 := M1) (by rw [eM1]; rfl) ?_
  refine Z_blk k_X9_readStep 2 (pc' := 85) (lo' := [some (vR 20 15 0), some (vR 23 11 0), some (vR 53 18 0), some (vI a3), some (vI a4), none, none]) (st' := [vI a3, vR 53 18 0]) (M1 := M1) rfl ?_
  obtain ⟨x2, hx2, h⟩ := Option.bind_eq_some_iff.mp h
  refine Z_callV8 k_X9_readStep k_X8_addRow rfl rfl (l_9_51) (ci := 8) rfl [vI a3] [] rfl rfl (Nat.le_of_ble_eq_true rfl) (Nat.le_of_ble_eq_true rfl) (e_X8_addRow (d + 4) 53 a3 M1 _ _ hx2) ?_
  refine Z_blk k_X9_readStep 2 (pc' := 92) (lo' := [some (vR 20 15 0), some (vR 23 11 0), some (vR 53 18 0), some (vI a3), some (vI a4), some (vI x2.1), none]) (st' := [vI a4]) (M1 := x2.2) rfl ?_
  refine Z_if k_X9_readStep rfl 101 rfl (fun hc => ?_) (fun hc => ?_)
  · replace h := of_pos hc h
    refine Z_mask [true, true, true, true, false, true, false] (lo0 := [some (vR 20 15 0), some (vR 23 11 0), some (vR 53 18 0), some (vI a3), none, some (vI x2.1), none]) rfl ?_
    exact e_X9_readStep_101 d a3 x2.1 x2.2 _ _ h
  · replace h := of_neg hc h
    refine Z_blk k_X9_readStep 2 (pc' := 98) (lo' := [some (vR 20 15 0), some (vR 23 11 0), some (vR 53 18 0), some (vI a3), some (vI a4), some (vI x2.1), none]) (st' := [vI x2.1, vR 53 18 0]) (M1 := x2.2) rfl ?_
    obtain ⟨x3, hx3, h⟩ := Option.bind_eq_some_iff.mp h
    refine Z_callV8 k_X9_readStep k_X8_openRow rfl rfl (l_9_68) (ci := 8) rfl [vI x2.1] [] rfl rfl (Nat.le_of_ble_eq_true rfl) (Nat.le_of_ble_eq_true rfl) (e_X8_openRow (d + 4) 53 x2.1 x2.2 _ hx3) ?_
    refine Z_mask [true, true, true, true, false, true, false] (lo0 := [some (vR 20 15 0), some (vR 23 11 0), some (vR 53 18 0), some (vI a3), none, some (vI x2.1), none]) rfl ?_
    exact e_X9_readStep_101 d a3 x2.1 x3 _ _ h
def f_X9_readStep_51 (a3 : Int) (s0 : Int) (M : AM) : Option (Int × AM) := if s0 = 0 then f_X9_readStep_73 a3 s0 M else (if M 53 10 < 3 then f_X9_readStep_73 a3 s0 M else ((f_X5_refuse 7 M).bind fun x1 => if x1.1 = 0 ∨ x1.1 = 1 then some (x1.1, x1.2) else none))
theorem e_X9_readStep_51 {Y : List (Nat × Nat)} (d : Nat) (a3 : Int) (s0 : Int) (M : AM) (x : Int) (N : AM) (h : f_X9_readStep_51 a3 s0 M = some (x, N)) : Ev Y (d + 5) m_X9_readStep 51 [some (vR 20 15 0), some (vR 23 11 0), some (vR 53 18 0), some (vI a3), none, none, none] [vI s0] M (some (vI x)) N := by
  unfold f_X9_readStep_51 at h
  refine Z_blk k_X9_readStep 2 (pc' := 55) (lo' := [some (vR 20 15 0), some (vR 23 11 0), some (vR 53 18 0), some (vI a3), some (vI s0), none, none]) (st' := [vI s0]) (M1 := M) rfl ?_
  refine Z_if k_X9_readStep rfl 73 rfl (fun hc => ?_) (fun hc => ?_)
  · replace h := of_pos hc h
    refine Z_mask [true, true, true, true, true, false, false] (lo0 := [some (vR 20 15 0), some (vR 23 11 0), some (vR 53 18 0), some (vI a3), some (vI s0), none, none]) rfl ?_
    exact e_X9_readStep_73 d a3 s0 M _ _ h
  · replace h := of_neg hc h
    refine Z_blk k_X9_readStep 3 (pc' := 63) (lo' := [some (vR 20 15 0), some (vR 23 11 0), some (vR 53 18 0), some (vI a3), some (vI s0), none, none]) (st' := [vI 3, vI (M 53 10)]) (M1 := M) rfl ?_
    refine Z_icmp k_X9_readStep rfl 73 rfl (fun hc => ?_) (fun hc => ?_)
    · replace h := of_pos hc h
      refine Z_mask [true, true, true, true, true, false, false] (lo0 := [some (vR 20 15 0), some (vR 23 11 0), some (vR 53 18 0), some (vI a3), some (vI s0), none, none]) rfl ?_
      exact e_X9_readStep_73 d a3 s0 M _ _ h
    · replace h := of_neg hc h
      refine Z_blk k_X9_readStep 2 (pc' := 69) (lo' := [some (vR 20 15 0), some (vR 23 11 0), some (vR 53 18 0), some (vI a3), some (vI s0), none, none]) (st' := [vI 7, vR 20 15 0]) (M1 := M) rfl ?_
      obtain ⟨x1, hx1, h⟩ := Option.bind_eq_some_iff.mp h
      refine Z_callV8 k_X9_readStep k_X5_refuse rfl rfl (l_9_40) (ci := 5) rfl [vI 7] [] rfl rfl (Nat.le_of_ble_eq_true rfl) (Nat.le_of_ble_eq_true rfl) (e_X5_refuse (d + 4) 7 M _ _ hx1) ?_
      obtain ⟨hc2, h⟩ := of_grd h
      cases h
      exact Z_ret ⟨Or.inr ⟨rfl, hc2⟩, _, rfl⟩ rfl
def f_X9_readStep (M : AM) : Option (Int × AM) := (f_X9_beginsStep (M 20 3) M).bind fun x1 => if ¬ x1.1 = 0 then (if x1.2 53 1 < 30 then (if M 20 3 = 17 then f_X9_readStep_51 (M 20 3) 1 x1.2 else (if ¬ M 20 3 = 20 then f_X9_readStep_51 (M 20 3) 0 x1.2 else f_X9_readStep_51 (M 20 3) 1 x1.2)) else ((f_X5_refuse 6 x1.2).bind fun x2 => if x2.1 = 0 ∨ x2.1 = 1 then some (x2.1, x2.2) else none)) else ((f_X5_refuse 2 x1.2).bind fun x4 => if x4.1 = 0 ∨ x4.1 = 1 then some (x4.1, x4.2) else none)
theorem e_X9_readStep {Y : List (Nat × Nat)} (d : Nat) (M : AM) (x : Int) (N : AM) (h : f_X9_readStep M = some (x, N)) : Ev Y (d + 5) m_X9_readStep 0 [some (vR 20 15 0), some (vR 23 11 0), some (vR 53 18 0), none, none, none, none] [] M (some (vI x)) N := by
  unfold f_X9_readStep at h
  refine Z_blk k_X9_readStep 4 (pc' := 6) (lo' := [some (vR 20 15 0), some (vR 23 11 0), some (vR 53 18 0), some (vI (M 20 3)), none, none, none]) (st' := [vI (M 20 3)]) (M1 := M) rfl ?_
  obtain ⟨x1, hx1, h⟩ := Option.bind_eq_some_iff.mp h
  refine Z_callS8 k_X9_readStep k_X9_beginsStep rfl rfl (l_9_62) [vI (M 20 3)] [] rfl rfl (Nat.le_of_ble_eq_true rfl) (Nat.le_of_ble_eq_true rfl) (e_X9_beginsStep (d + 4) (M 20 3) M _ _ hx1) ?_
  refine Z_if k_X9_readStep rfl 18 rfl (fun hc => ?_) (fun hc => ?_)
  · replace h := of_pos hc h
    refine Z_blk k_X9_readStep 3 (pc' := 24) (lo' := [some (vR 20 15 0), some (vR 23 11 0), some (vR 53 18 0), some (vI (M 20 3)), none, none, none]) (st' := [vI 30, vI (x1.2 53 1)]) (M1 := x1.2) rfl ?_
    refine Z_icmp k_X9_readStep rfl 34 rfl (fun hc => ?_) (fun hc => ?_)
    · replace h := of_pos hc h
      refine Z_blk k_X9_readStep 2 (pc' := 37) (lo' := [some (vR 20 15 0), some (vR 23 11 0), some (vR 53 18 0), some (vI (M 20 3)), none, none, none]) (st' := [vI 17, vI (M 20 3)]) (M1 := x1.2) rfl ?_
      refine Z_icmp k_X9_readStep rfl 46 rfl (fun hc => ?_) (fun hc => ?_)
      · replace h := of_pos hc h
        refine Z_blk k_X9_readStep 2 (pc' := 51) (lo' := [some (vR 20 15 0), some (vR 23 11 0), some (vR 53 18 0), some (vI (M 20 3)), none, none, none]) (st' := [vI 1]) (M1 := x1.2) rfl ?_
        refine Z_mask [true, true, true, true, false, false, false] (lo0 := [some (vR 20 15 0), some (vR 23 11 0), some (vR 53 18 0), some (vI (M 20 3)), none, none, none]) rfl ?_
        exact e_X9_readStep_51 d (M 20 3) 1 x1.2 _ _ h
      · replace h := of_neg hc h
        refine Z_blk k_X9_readStep 2 (pc' := 43) (lo' := [some (vR 20 15 0), some (vR 23 11 0), some (vR 53 18 0), some (vI (M 20 3)), none, none, none]) (st' := [vI 20, vI (M 20 3)]) (M1 := x1.2) rfl ?_
        refine Z_icmp k_X9_readStep rfl 50 rfl (fun hc => ?_) (fun hc => ?_)
        · replace h := of_pos hc h
          refine Z_blk k_X9_readStep 1 (pc' := 51) (lo' := [some (vR 20 15 0), some (vR 23 11 0), some (vR 53 18 0), some (vI (M 20 3)), none, none, none]) (st' := [vI 0]) (M1 := x1.2) rfl ?_
          refine Z_mask [true, true, true, true, false, false, false] (lo0 := [some (vR 20 15 0), some (vR 23 11 0), some (vR 53 18 0), some (vI (M 20 3)), none, none, none]) rfl ?_
          exact e_X9_readStep_51 d (M 20 3) 0 x1.2 _ _ h
        · replace h := of_neg hc h
          refine Z_blk k_X9_readStep 2 (pc' := 51) (lo' := [some (vR 20 15 0), some (vR 23 11 0), some (vR 53 18 0), some (vI (M 20 3)), none, none, none]) (st' := [vI 1]) (M1 := x1.2) rfl ?_
          refine Z_mask [true, true, true, true, false, false, false] (lo0 := [some (vR 20 15 0), some (vR 23 11 0), some (vR 53 18 0), some (vI (M 20 3)), none, none, none]) rfl ?_
          exact e_X9_readStep_51 d (M 20 3) 1 x1.2 _ _ h
    · replace h := of_neg hc h
      refine Z_blk k_X9_readStep 2 (pc' := 30) (lo' := [some (vR 20 15 0), some (vR 23 11 0), some (vR 53 18 0), some (vI (M 20 3)), none, none, none]) (st' := [vI 6, vR 20 15 0]) (M1 := x1.2) rfl ?_
      obtain ⟨x2, hx2, h⟩ := Option.bind_eq_some_iff.mp h
      refine Z_callV8 k_X9_readStep k_X5_refuse rfl rfl (l_9_40) (ci := 5) rfl [vI 6] [] rfl rfl (Nat.le_of_ble_eq_true rfl) (Nat.le_of_ble_eq_true rfl) (e_X5_refuse (d + 4) 6 x1.2 _ _ hx2) ?_
      obtain ⟨hc3, h⟩ := of_grd h
      cases h
      exact Z_ret ⟨Or.inr ⟨rfl, hc3⟩, _, rfl⟩ rfl
  · replace h := of_neg hc h
    refine Z_blk k_X9_readStep 2 (pc' := 14) (lo' := [some (vR 20 15 0), some (vR 23 11 0), some (vR 53 18 0), some (vI (M 20 3)), none, none, none]) (st' := [vI 2, vR 20 15 0]) (M1 := x1.2) rfl ?_
    obtain ⟨x4, hx4, h⟩ := Option.bind_eq_some_iff.mp h
    refine Z_callV8 k_X9_readStep k_X5_refuse rfl rfl (l_9_40) (ci := 5) rfl [vI 2] [] rfl rfl (Nat.le_of_ble_eq_true rfl) (Nat.le_of_ble_eq_true rfl) (e_X5_refuse (d + 4) 2 x1.2 _ _ hx4) ?_
    obtain ⟨hc5, h⟩ := of_grd h
    cases h
    exact Z_ret ⟨Or.inr ⟨rfl, hc5⟩, _, rfl⟩ rfl
theorem l_9_9 : zhas 3205 (Jvm.Cond.methodLink "BellPullHouse$YearsReader" 9 yX5_start) = true := by decide +kernel
theorem l_9_15 : zhas 3206 (Jvm.Cond.methodLink "BellPullHouse$YearsReader" 15 yX8_forget) = true := by decide +kernel
theorem l_9_27 : zhas 3207 (Jvm.Cond.methodLink "BellPullHouse$YearsReader" 27 yX9_readEnd) = true := by decide +kernel
theorem l_9_33 : zhas 3221 (Jvm.Cond.methodLink "BellPullHouse$YearsReader" 33 yX9_readStep) = true := by decide +kernel
def f_X9_readYears_48 (k_12 : Int → Int → AM → Option (Int × AM)) (a3 : Int) (a4 : Int) (s0 : Int) (M : AM) : Option (Int × AM) := if ¬ s0 = 0 then k_12 a3 (o_add a4 1) M else some (0, M)
theorem e_X9_readYears_48 {Y : List (Nat × Nat)} (d : Nat) (k_12 : Int → Int → AM → Option (Int × AM)) (hk_12 : ∀ (a3 : Int) (a4 : Int) (M : AM) (x : Int) (N : AM), k_12 a3 a4 M = some (x, N) → Ev Y (d + 6) m_X9_readYears 12 [some (vR 20 15 0), some (vR 23 11 0), some (vR 53 18 0), some (vI a3), some (vI a4), none] [] M (some (vI x)) N) (a3 : Int) (a4 : Int) (s0 : Int) (M : AM) (x : Int) (N : AM) (h : f_X9_readYears_48 k_12 a3 a4 s0 M = some (x, N)) : Ev Y (d + 6) m_X9_readYears 48 [some (vR 20 15 0), some (vR 23 11 0), some (vR 53 18 0), some (vI a3), some (vI a4), none] [vI s0] M (some (vI x)) N := by
  unfold f_X9_readYears_48 at h
  refine Z_blk k_X9_readYears 2 (pc' := 52) (lo' := [some (vR 20 15 0), some (vR 23 11 0), some (vR 53 18 0), some (vI a3), some (vI a4), some (vI s0)]) (st' := [vI s0]) (M1 := M) rfl ?_
  refine Z_if k_X9_readYears rfl 57 rfl (fun hc => ?_) (fun hc => ?_)
  · replace h := of_pos hc h
    refine Z_blk k_X9_readYears 2 (pc' := 12) (lo' := [some (vR 20 15 0), some (vR 23 11 0), some (vR 53 18 0), some (vI a3), some (vI (o_add a4 1)), some (vI s0)]) (st' := []) (M1 := M) rfl ?_
    refine Z_mask [true, true, true, true, true, false] (lo0 := [some (vR 20 15 0), some (vR 23 11 0), some (vR 53 18 0), some (vI a3), some (vI (o_add a4 1)), none]) rfl ?_
    exact hk_12 a3 (o_add a4 1) M _ _ h
  · replace h := of_neg hc h
    refine Z_blk k_X9_readYears 1 (pc' := 56) (lo' := [some (vR 20 15 0), some (vR 23 11 0), some (vR 53 18 0), some (vI a3), some (vI a4), some (vI s0)]) (st' := [vI 0]) (M1 := M) rfl ?_
    cases h
    exact Z_ret ⟨Or.inr ⟨rfl, Or.inl rfl⟩, _, rfl⟩ rfl
def f_X9_readYears_63 (M : AM) : Option (Int × AM) := if M 53 10 ≤ 0 then (zlet (am_upd M 53 0 1) fun M1 => some (1, M1)) else ((f_X5_refuse 2 M).bind fun x2 => if x2.1 = 0 ∨ x2.1 = 1 then some (x2.1, x2.2) else none)
theorem e_X9_readYears_63 {Y : List (Nat × Nat)} (d : Nat) (M : AM) (x : Int) (N : AM) (h : f_X9_readYears_63 M = some (x, N)) : Ev Y (d + 6) m_X9_readYears 63 [some (vR 20 15 0), none, some (vR 53 18 0), none, none, none] [] M (some (vI x)) N := by
  unfold f_X9_readYears_63 at h
  refine Z_blk k_X9_readYears 2 (pc' := 67) (lo' := [some (vR 20 15 0), none, some (vR 53 18 0), none, none, none]) (st' := [vI (M 53 10)]) (M1 := M) rfl ?_
  refine Z_if k_X9_readYears rfl 76 rfl (fun hc => ?_) (fun hc => ?_)
  · replace h := of_pos hc h
    obtain ⟨M1, eM1, h⟩ := of_zlet h
    refine Z_blk k_X9_readYears 3 (pc' := 81) (lo' := [some (vR 20 15 0), none, some (vR 53 18 0), none, none, none]) (st' := []) (M1 := M1) (by rw [eM1]; rfl) ?_
    refine Z_blk k_X9_readYears 1 (pc' := 82) (lo' := [some (vR 20 15 0), none, some (vR 53 18 0), none, none, none]) (st' := [vI 1]) (M1 := M1) rfl ?_
    cases h
    exact Z_ret ⟨Or.inr ⟨rfl, Or.inr rfl⟩, _, rfl⟩ rfl
  · replace h := of_neg hc h
    refine Z_blk k_X9_readYears 2 (pc' := 72) (lo' := [some (vR 20 15 0), none, some (vR 53 18 0), none, none, none]) (st' := [vI 2, vR 20 15 0]) (M1 := M) rfl ?_
    obtain ⟨x2, hx2, h⟩ := Option.bind_eq_some_iff.mp h
    refine Z_callV8 k_X9_readYears k_X5_refuse rfl rfl (l_9_40) (ci := 5) rfl [vI 2] [] rfl rfl (Nat.le_of_ble_eq_true rfl) (Nat.le_of_ble_eq_true rfl) (e_X5_refuse (d + 5) 2 M _ _ hx2) ?_
    obtain ⟨hc3, h⟩ := of_grd h
    cases h
    exact Z_ret ⟨Or.inr ⟨rfl, hc3⟩, _, rfl⟩ rfl
def f_X9_readYears_12 : Nat → Int → Int → AM → Option (Int × AM)
  | 0, _, _, _ => none
  | n + 1, a3, a4, M => if a3 ≤ a4 then f_X9_readYears_63 M else (if M 20 0 = 0 then f_X9_readYears_63 M else (if ¬ M 20 3 = 21 then ((f_X9_readStep M).bind fun x1 => f_X9_readYears_48 (f_X9_readYears_12 n) a3 a4 x1.1 x1.2) else ((f_X9_readEnd M).bind fun x2 => f_X9_readYears_48 (f_X9_readYears_12 n) a3 a4 x2.1 x2.2)))
theorem e_X9_readYears_12 {Y : List (Nat × Nat)} (d : Nat) : ∀ (n : Nat) (a3 : Int) (a4 : Int) (M : AM) (x : Int) (N : AM), f_X9_readYears_12 n a3 a4 M = some (x, N) → Ev Y (d + 6) m_X9_readYears 12 [some (vR 20 15 0), some (vR 23 11 0), some (vR 53 18 0), some (vI a3), some (vI a4), none] [] M (some (vI x)) N := by
  intro n
  induction n with
  | zero => intro a3 a4 M x N h; cases h
  | succ n ih =>
    intro a3 a4 M x N h
    simp only [f_X9_readYears_12] at h
    refine Z_blk k_X9_readYears 2 (pc' := 15) (lo' := [some (vR 20 15 0), some (vR 23 11 0), some (vR 53 18 0), some (vI a3), some (vI a4), none]) (st' := [vI a3, vI a4]) (M1 := M) rfl ?_
    refine Z_icmp k_X9_readYears rfl 63 rfl (fun hc => ?_) (fun hc => ?_)
    · replace h := of_pos hc h
      refine Z_mask [true, false, true, false, false, false] (lo0 := [some (vR 20 15 0), none, some (vR 53 18 0), none, none, none]) rfl ?_
      exact e_X9_readYears_63 d M _ _ h
    · replace h := of_neg hc h
      refine Z_blk k_X9_readYears 2 (pc' := 22) (lo' := [some (vR 20 15 0), some (vR 23 11 0), some (vR 53 18 0), some (vI a3), some (vI a4), none]) (st' := [vI (M 20 0)]) (M1 := M) rfl ?_
      refine Z_if k_X9_readYears rfl 63 rfl (fun hc => ?_) (fun hc => ?_)
      · replace h := of_pos hc h
        refine Z_mask [true, false, true, false, false, false] (lo0 := [some (vR 20 15 0), none, some (vR 53 18 0), none, none, none]) rfl ?_
        exact e_X9_readYears_63 d M _ _ h
      · replace h := of_neg hc h
        refine Z_blk k_X9_readYears 3 (pc' := 31) (lo' := [some (vR 20 15 0), some (vR 23 11 0), some (vR 53 18 0), some (vI a3), some (vI a4), none]) (st' := [vI 21, vI (M 20 3)]) (M1 := M) rfl ?_
        refine Z_icmp k_X9_readYears rfl 42 rfl (fun hc => ?_) (fun hc => ?_)
        · replace h := of_pos hc h
          refine Z_blk k_X9_readYears 3 (pc' := 45) (lo' := [some (vR 20 15 0), some (vR 23 11 0), some (vR 53 18 0), some (vI a3), some (vI a4), none]) (st' := [vR 53 18 0, vR 23 11 0, vR 20 15 0]) (M1 := M) rfl ?_
          obtain ⟨x1, hx1, h⟩ := Option.bind_eq_some_iff.mp h
          refine Z_callS8 k_X9_readYears k_X9_readStep rfl rfl (l_9_33) [vR 20 15 0, vR 23 11 0, vR 53 18 0] [] rfl rfl (Nat.le_of_ble_eq_true rfl) (Nat.le_of_ble_eq_true rfl) (e_X9_readStep (d + 0) M _ _ hx1) ?_
          refine Z_mask [true, true, true, true, true, false] (lo0 := [some (vR 20 15 0), some (vR 23 11 0), some (vR 53 18 0), some (vI a3), some (vI a4), none]) rfl ?_
          exact e_X9_readYears_48 d (f_X9_readYears_12 n) ih a3 a4 x1.1 x1.2 _ _ h
        · replace h := of_neg hc h
          refine Z_blk k_X9_readYears 2 (pc' := 36) (lo' := [some (vR 20 15 0), some (vR 23 11 0), some (vR 53 18 0), some (vI a3), some (vI a4), none]) (st' := [vR 53 18 0, vR 20 15 0]) (M1 := M) rfl ?_
          obtain ⟨x2, hx2, h⟩ := Option.bind_eq_some_iff.mp h
          refine Z_callS8 k_X9_readYears k_X9_readEnd rfl rfl (l_9_27) [vR 20 15 0, vR 53 18 0] [] rfl rfl (Nat.le_of_ble_eq_true rfl) (Nat.le_of_ble_eq_true rfl) (e_X9_readEnd (d + 1) M _ _ hx2) ?_
          refine Z_blk k_X9_readYears 1 (pc' := 48) (lo' := [some (vR 20 15 0), some (vR 23 11 0), some (vR 53 18 0), some (vI a3), some (vI a4), none]) (st' := [vI x2.1]) (M1 := x2.2) rfl ?_
          refine Z_mask [true, true, true, true, true, false] (lo0 := [some (vR 20 15 0), some (vR 23 11 0), some (vR 53 18 0), some (vI a3), some (vI a4), none]) rfl ?_
          exact e_X9_readYears_48 d (f_X9_readYears_12 n) ih a3 a4 x2.1 x2.2 _ _ h
def f_X9_readYears (a3 : Int) (M : AM) : Option (Int × AM) := (f_X5_start a3 M).bind fun x1 => (f_X8_forget 53 x1).bind fun x2 => f_X9_readYears_12 zB a3 0 x2
theorem e_X9_readYears {Y : List (Nat × Nat)} (d : Nat) (a3 : Int) (M : AM) (x : Int) (N : AM) (h : f_X9_readYears a3 M = some (x, N)) : Ev Y (d + 6) m_X9_readYears 0 [some (vR 20 15 0), some (vR 23 11 0), some (vR 53 18 0), some (vI a3), none, none] [] M (some (vI x)) N := by
  unfold f_X9_readYears at h
  refine Z_blk k_X9_readYears 2 (pc' := 2) (lo' := [some (vR 20 15 0), some (vR 23 11 0), some (vR 53 18 0), some (vI a3), none, none]) (st' := [vI a3, vR 20 15 0]) (M1 := M) rfl ?_
  obtain ⟨x1, hx1, h⟩ := Option.bind_eq_some_iff.mp h
  refine Z_callV8 k_X9_readYears k_X5_start rfl rfl (l_9_9) (ci := 5) rfl [vI a3] [] rfl rfl (Nat.le_of_ble_eq_true rfl) (Nat.le_of_ble_eq_true rfl) (e_X5_start (d + 2) a3 M _ hx1) ?_
  refine Z_blk k_X9_readYears 1 (pc' := 6) (lo' := [some (vR 20 15 0), some (vR 23 11 0), some (vR 53 18 0), some (vI a3), none, none]) (st' := [vR 53 18 0]) (M1 := x1) rfl ?_
  obtain ⟨x2, hx2, h⟩ := Option.bind_eq_some_iff.mp h
  refine Z_callV8 k_X9_readYears k_X8_forget rfl rfl (l_9_15) (ci := 8) rfl [] [] rfl rfl (Nat.le_of_ble_eq_true rfl) (Nat.le_of_ble_eq_true rfl) (e_X8_forget (d + 5) 53 x1 _ hx2) ?_
  refine Z_blk k_X9_readYears 2 (pc' := 12) (lo' := [some (vR 20 15 0), some (vR 23 11 0), some (vR 53 18 0), some (vI a3), some (vI 0), none]) (st' := []) (M1 := x2) rfl ?_
  refine Z_mask [true, true, true, true, true, false] (lo0 := [some (vR 20 15 0), some (vR 23 11 0), some (vR 53 18 0), some (vI a3), some (vI 0), none]) rfl ?_
  exact e_X9_readYears_12 d zB a3 0 x2 _ _ h
def f_X10_status (M : AM) : Option (Int × AM) := some (M 15 0, M)
theorem e_X10_status {Y : List (Nat × Nat)} (d : Nat) (M : AM) (x : Int) (N : AM) (h : f_X10_status M = some (x, N)) : Ev Y (d + 0) m_X10_status 0 [some (vR 15 20 0)] [] M (some (vI x)) N := by
  unfold f_X10_status at h
  refine Z_blk k_X10_status 2 (pc' := 4) (lo' := [some (vR 15 20 0)]) (st' := [vI (M 15 0)]) (M1 := M) rfl ?_
  cases h
  exact Z_ret ⟨Or.inl rfl, _, rfl⟩ rfl
def f_X10_top (M : AM) : Option (Int × AM) := some (M 15 1, M)
theorem e_X10_top {Y : List (Nat × Nat)} (d : Nat) (M : AM) (x : Int) (N : AM) (h : f_X10_top M = some (x, N)) : Ev Y (d + 0) m_X10_top 0 [some (vR 15 20 0)] [] M (some (vL x)) N := by
  unfold f_X10_top at h
  refine Z_blk k_X10_top 2 (pc' := 4) (lo' := [some (vR 15 20 0)]) (st' := [vL (M 15 1)]) (M1 := M) rfl ?_
  cases h
  exact Z_ret ⟨rfl, _, rfl⟩ rfl
def f_X10_bottom (M : AM) : Option (Int × AM) := some (M 15 2, M)
theorem e_X10_bottom {Y : List (Nat × Nat)} (d : Nat) (M : AM) (x : Int) (N : AM) (h : f_X10_bottom M = some (x, N)) : Ev Y (d + 0) m_X10_bottom 0 [some (vR 15 20 0)] [] M (some (vL x)) N := by
  unfold f_X10_bottom at h
  refine Z_blk k_X10_bottom 2 (pc' := 4) (lo' := [some (vR 15 20 0)]) (st' := [vL (M 15 2)]) (M1 := M) rfl ?_
  cases h
  exact Z_ret ⟨rfl, _, rfl⟩ rfl
def f_X10_agree (M : AM) : Option (Int × AM) := zlet (am_upd M 15 0 0) fun M1 => some (1, M1)
theorem e_X10_agree {Y : List (Nat × Nat)} (d : Nat) (M : AM) (x : Int) (N : AM) (h : f_X10_agree M = some (x, N)) : Ev Y (d + 0) m_X10_agree 0 [some (vR 15 20 0)] [] M (some (vI x)) N := by
  unfold f_X10_agree at h
  obtain ⟨M1, eM1, h⟩ := of_zlet h
  refine Z_blk k_X10_agree 3 (pc' := 5) (lo' := [some (vR 15 20 0)]) (st' := []) (M1 := M1) (by rw [eM1]; rfl) ?_
  refine Z_blk k_X10_agree 1 (pc' := 6) (lo' := [some (vR 15 20 0)]) (st' := [vI 1]) (M1 := M1) rfl ?_
  cases h
  exact Z_ret ⟨Or.inr ⟨rfl, Or.inr rfl⟩, _, rfl⟩ rfl
def f_X10_isTray (a0 : Int) (M : AM) : Option (Int × AM) := if a0 < 0 then some (0, M) else (if 4 ≤ a0 then some (0, M) else some (1, M))
theorem e_X10_isTray {Y : List (Nat × Nat)} (d : Nat) (a0 : Int) (M : AM) (x : Int) (N : AM) (h : f_X10_isTray a0 M = some (x, N)) : Ev Y (d + 0) m_X10_isTray 0 [some (vI a0)] [] M (some (vI x)) N := by
  unfold f_X10_isTray at h
  refine Z_blk k_X10_isTray 1 (pc' := 1) (lo' := [some (vI a0)]) (st' := [vI a0]) (M1 := M) rfl ?_
  refine Z_if k_X10_isTray rfl 13 rfl (fun hc => ?_) (fun hc => ?_)
  · replace h := of_pos hc h
    refine Z_blk k_X10_isTray 1 (pc' := 14) (lo' := [some (vI a0)]) (st' := [vI 0]) (M1 := M) rfl ?_
    cases h
    exact Z_ret ⟨Or.inr ⟨rfl, Or.inl rfl⟩, _, rfl⟩ rfl
  · replace h := of_neg hc h
    refine Z_blk k_X10_isTray 2 (pc' := 6) (lo' := [some (vI a0)]) (st' := [vI 4, vI a0]) (M1 := M) rfl ?_
    refine Z_icmp k_X10_isTray rfl 13 rfl (fun hc => ?_) (fun hc => ?_)
    · replace h := of_pos hc h
      refine Z_blk k_X10_isTray 1 (pc' := 14) (lo' := [some (vI a0)]) (st' := [vI 0]) (M1 := M) rfl ?_
      cases h
      exact Z_ret ⟨Or.inr ⟨rfl, Or.inl rfl⟩, _, rfl⟩ rfl
    · replace h := of_neg hc h
      refine Z_blk k_X10_isTray 2 (pc' := 14) (lo' := [some (vI a0)]) (st' := [vI 1]) (M1 := M) rfl ?_
      cases h
      exact Z_ret ⟨Or.inr ⟨rfl, Or.inr rfl⟩, _, rfl⟩ rfl
def f_X10_refuse (a1 : Int) (M : AM) : Option (Int × AM) := zlet (am_upd M 15 0 a1) fun M1 => some (0, M1)
theorem e_X10_refuse {Y : List (Nat × Nat)} (d : Nat) (a1 : Int) (M : AM) (x : Int) (N : AM) (h : f_X10_refuse a1 M = some (x, N)) : Ev Y (d + 0) m_X10_refuse 0 [some (vR 15 20 0), some (vI a1)] [] M (some (vI x)) N := by
  unfold f_X10_refuse at h
  obtain ⟨M1, eM1, h⟩ := of_zlet h
  refine Z_blk k_X10_refuse 3 (pc' := 5) (lo' := [some (vR 15 20 0), some (vI a1)]) (st' := []) (M1 := M1) (by rw [eM1]; rfl) ?_
  refine Z_blk k_X10_refuse 1 (pc' := 6) (lo' := [some (vR 15 20 0), some (vI a1)]) (st' := [vI 0]) (M1 := M1) rfl ?_
  cases h
  exact Z_ret ⟨Or.inr ⟨rfl, Or.inl rfl⟩, _, rfl⟩ rfl
theorem l_10_107 : zhas 3004 (Jvm.Cond.methodLink "BellPullHouse" 107 yX10_isTray) = true := by decide +kernel
theorem l_10_111 : zhas 3007 (Jvm.Cond.methodLink "BellPullHouse" 111 yX10_refuse) = true := by decide +kernel
theorem l_10_114 : zhas 3011 (Jvm.Cond.methodLink "BellPullHouse" 114 yX6_make) = true := by decide +kernel
theorem l_10_118 : zhas 3018 (Jvm.Cond.methodLink "BellPullHouse" 118 yX10_agree) = true := by decide +kernel
def f_X10_tray_16 (M : AM) : Option (Int × AM) := (f_X10_refuse 1 M).bind fun x1 => if x1.1 = 0 ∨ x1.1 = 1 then some (x1.1, x1.2) else none
theorem e_X10_tray_16 {Y : List (Nat × Nat)} (d : Nat) (M : AM) (x : Int) (N : AM) (h : f_X10_tray_16 M = some (x, N)) : Ev Y (d + 2) m_X10_tray 16 [some (vR 15 20 0), none, none, none] [] M (some (vI x)) N := by
  unfold f_X10_tray_16 at h
  refine Z_blk k_X10_tray 2 (pc' := 18) (lo' := [some (vR 15 20 0), none, none, none]) (st' := [vI 1, vR 15 20 0]) (M1 := M) rfl ?_
  obtain ⟨x1, hx1, h⟩ := Option.bind_eq_some_iff.mp h
  refine Z_callV8 k_X10_tray k_X10_refuse rfl rfl (l_10_111) (ci := 10) rfl [vI 1] [] rfl rfl (Nat.le_of_ble_eq_true rfl) (Nat.le_of_ble_eq_true rfl) (e_X10_refuse (d + 1) 1 M _ _ hx1) ?_
  obtain ⟨hc2, h⟩ := of_grd h
  cases h
  exact Z_ret ⟨Or.inr ⟨rfl, hc2⟩, _, rfl⟩ rfl
def f_X10_tray (a1 : Int) (a2 : Int) (a3 : Int) (M : AM) : Option (Int × AM) := (f_X10_isTray a1 M).bind fun x1 => if x1.1 = 0 then f_X10_tray_16 x1.2 else (if a2 < 0 then f_X10_tray_16 x1.2 else (if a2 < 4 then (if a3 ≤ 60 then (if 0 ≤ a3 then (if 0 ≤ a1 ∧ a1 < 4 then ((f_X6_make (16 + 58 + 2 * (Int.toNat a1)) a2 a3 x1.2).bind fun x3 => (f_X10_agree x3).bind fun x4 => if x4.1 = 0 ∨ x4.1 = 1 then some (x4.1, x4.2) else none) else none) else ((f_X10_refuse 6 x1.2).bind fun x6 => if x6.1 = 0 ∨ x6.1 = 1 then some (x6.1, x6.2) else none)) else ((f_X10_refuse 5 x1.2).bind fun x8 => if x8.1 = 0 ∨ x8.1 = 1 then some (x8.1, x8.2) else none)) else f_X10_tray_16 x1.2))
theorem e_X10_tray {Y : List (Nat × Nat)} (d : Nat) (a1 : Int) (a2 : Int) (a3 : Int) (M : AM) (x : Int) (N : AM) (h : f_X10_tray a1 a2 a3 M = some (x, N)) : Ev Y (d + 2) m_X10_tray 0 [some (vR 15 20 0), some (vI a1), some (vI a2), some (vI a3)] [] M (some (vI x)) N := by
  unfold f_X10_tray at h
  refine Z_blk k_X10_tray 1 (pc' := 1) (lo' := [some (vR 15 20 0), some (vI a1), some (vI a2), some (vI a3)]) (st' := [vI a1]) (M1 := M) rfl ?_
  obtain ⟨x1, hx1, h⟩ := Option.bind_eq_some_iff.mp h
  refine Z_callS8 k_X10_tray k_X10_isTray rfl rfl (l_10_107) [vI a1] [] rfl rfl (Nat.le_of_ble_eq_true rfl) (Nat.le_of_ble_eq_true rfl) (e_X10_isTray (d + 1) a1 M _ _ hx1) ?_
  refine Z_if k_X10_tray rfl 16 rfl (fun hc => ?_) (fun hc => ?_)
  · replace h := of_pos hc h
    refine Z_mask [true, false, false, false] (lo0 := [some (vR 15 20 0), none, none, none]) rfl ?_
    exact e_X10_tray_16 d x1.2 _ _ h
  · replace h := of_neg hc h
    refine Z_blk k_X10_tray 1 (pc' := 8) (lo' := [some (vR 15 20 0), some (vI a1), some (vI a2), some (vI a3)]) (st' := [vI a2]) (M1 := x1.2) rfl ?_
    refine Z_if k_X10_tray rfl 16 rfl (fun hc => ?_) (fun hc => ?_)
    · replace h := of_pos hc h
      refine Z_mask [true, false, false, false] (lo0 := [some (vR 15 20 0), none, none, none]) rfl ?_
      exact e_X10_tray_16 d x1.2 _ _ h
    · replace h := of_neg hc h
      refine Z_blk k_X10_tray 2 (pc' := 13) (lo' := [some (vR 15 20 0), some (vI a1), some (vI a2), some (vI a3)]) (st' := [vI 4, vI a2]) (M1 := x1.2) rfl ?_
      refine Z_icmp k_X10_tray rfl 22 rfl (fun hc => ?_) (fun hc => ?_)
      · replace h := of_pos hc h
        refine Z_blk k_X10_tray 2 (pc' := 25) (lo' := [some (vR 15 20 0), some (vI a1), some (vI a2), some (vI a3)]) (st' := [vI 60, vI a3]) (M1 := x1.2) rfl ?_
        refine Z_icmp k_X10_tray rfl 34 rfl (fun hc => ?_) (fun hc => ?_)
        · replace h := of_pos hc h
          refine Z_blk k_X10_tray 1 (pc' := 35) (lo' := [some (vR 15 20 0), some (vI a1), some (vI a2), some (vI a3)]) (st' := [vI a3]) (M1 := x1.2) rfl ?_
          refine Z_if k_X10_tray rfl 45 rfl (fun hc => ?_) (fun hc => ?_)
          · replace h := of_pos hc h
            refine Z_blk k_X10_tray 3 (pc' := 50) (lo' := [some (vR 15 20 0), some (vI a1), some (vI a2), some (vI a3)]) (st' := [vI a1, vR 16 3 4]) (M1 := x1.2) rfl ?_
            obtain ⟨hc2, h⟩ := of_grd h
            refine Z_one k_X10_tray rfl (pc' := 51) (lo' := [some (vR 15 20 0), some (vI a1), some (vI a2), some (vI a3)]) (st' := [vR (16 + 58 + 2 * (Int.toNat a1)) 16 0]) (M1 := x1.2) (if_pos hc2) ?_
            refine Z_blk k_X10_tray 2 (pc' := 53) (lo' := [some (vR 15 20 0), some (vI a1), some (vI a2), some (vI a3)]) (st' := [vI a3, vI a2, vR (16 + 58 + 2 * (Int.toNat a1)) 16 0]) (M1 := x1.2) rfl ?_
            obtain ⟨x3, hx3, h⟩ := Option.bind_eq_some_iff.mp h
            refine Z_callV8 k_X10_tray k_X6_make rfl rfl (l_10_114) (ci := 6) rfl [vI a2, vI a3] [] rfl rfl (Nat.le_of_ble_eq_true rfl) (Nat.le_of_ble_eq_true rfl) (e_X6_make (d + 0) (16 + 58 + 2 * (Int.toNat a1)) a2 a3 x1.2 _ hx3) ?_
            refine Z_blk k_X10_tray 1 (pc' := 57) (lo' := [some (vR 15 20 0), some (vI a1), some (vI a2), some (vI a3)]) (st' := [vR 15 20 0]) (M1 := x3) rfl ?_
            obtain ⟨x4, hx4, h⟩ := Option.bind_eq_some_iff.mp h
            refine Z_callV8 k_X10_tray k_X10_agree rfl rfl (l_10_118) (ci := 10) rfl [] [] rfl rfl (Nat.le_of_ble_eq_true rfl) (Nat.le_of_ble_eq_true rfl) (e_X10_agree (d + 1) x3 _ _ hx4) ?_
            obtain ⟨hc5, h⟩ := of_grd h
            cases h
            exact Z_ret ⟨Or.inr ⟨rfl, hc5⟩, _, rfl⟩ rfl
          · replace h := of_neg hc h
            refine Z_blk k_X10_tray 2 (pc' := 41) (lo' := [some (vR 15 20 0), some (vI a1), some (vI a2), some (vI a3)]) (st' := [vI 6, vR 15 20 0]) (M1 := x1.2) rfl ?_
            obtain ⟨x6, hx6, h⟩ := Option.bind_eq_some_iff.mp h
            refine Z_callV8 k_X10_tray k_X10_refuse rfl rfl (l_10_111) (ci := 10) rfl [vI 6] [] rfl rfl (Nat.le_of_ble_eq_true rfl) (Nat.le_of_ble_eq_true rfl) (e_X10_refuse (d + 1) 6 x1.2 _ _ hx6) ?_
            obtain ⟨hc7, h⟩ := of_grd h
            cases h
            exact Z_ret ⟨Or.inr ⟨rfl, hc7⟩, _, rfl⟩ rfl
        · replace h := of_neg hc h
          refine Z_blk k_X10_tray 2 (pc' := 30) (lo' := [some (vR 15 20 0), some (vI a1), some (vI a2), some (vI a3)]) (st' := [vI 5, vR 15 20 0]) (M1 := x1.2) rfl ?_
          obtain ⟨x8, hx8, h⟩ := Option.bind_eq_some_iff.mp h
          refine Z_callV8 k_X10_tray k_X10_refuse rfl rfl (l_10_111) (ci := 10) rfl [vI 5] [] rfl rfl (Nat.le_of_ble_eq_true rfl) (Nat.le_of_ble_eq_true rfl) (e_X10_refuse (d + 1) 5 x1.2 _ _ hx8) ?_
          obtain ⟨hc9, h⟩ := of_grd h
          cases h
          exact Z_ret ⟨Or.inr ⟨rfl, hc9⟩, _, rfl⟩ rfl
      · replace h := of_neg hc h
        refine Z_mask [true, false, false, false] (lo0 := [some (vR 15 20 0), none, none, none]) rfl ?_
        exact e_X10_tray_16 d x1.2 _ _ h
theorem l_10_144 : zhas 3030 (Jvm.Cond.methodLink "BellPullHouse" 144 yX6_hasRow) = true := by decide +kernel
def f_X10_wrongPlace (a1 : Int) (a2 : Int) (M : AM) : Option (Int × AM) := (f_X10_isTray a1 M).bind fun x1 => if ¬ x1.1 = 0 then (if 0 ≤ a1 ∧ a1 < 4 then (if ¬ x1.2 (16 + 58 + 2 * (Int.toNat a1)) 1 = 0 then ((f_X6_hasRow (16 + 58 + 2 * (Int.toNat a1)) a2 1 x1.2).bind fun x3 => if x3.1 = 0 then some (4, x3.2) else some (0, x3.2)) else some (3, x1.2)) else none) else some (1, x1.2)
theorem e_X10_wrongPlace {Y : List (Nat × Nat)} (d : Nat) (a1 : Int) (a2 : Int) (M : AM) (x : Int) (N : AM) (h : f_X10_wrongPlace a1 a2 M = some (x, N)) : Ev Y (d + 1) m_X10_wrongPlace 0 [some (vR 15 20 0), some (vI a1), some (vI a2)] [] M (some (vI x)) N := by
  unfold f_X10_wrongPlace at h
  refine Z_blk k_X10_wrongPlace 1 (pc' := 1) (lo' := [some (vR 15 20 0), some (vI a1), some (vI a2)]) (st' := [vI a1]) (M1 := M) rfl ?_
  obtain ⟨x1, hx1, h⟩ := Option.bind_eq_some_iff.mp h
  refine Z_callS8 k_X10_wrongPlace k_X10_isTray rfl rfl (l_10_107) [vI a1] [] rfl rfl (Nat.le_of_ble_eq_true rfl) (Nat.le_of_ble_eq_true rfl) (e_X10_isTray (d + 0) a1 M _ _ hx1) ?_
  refine Z_if k_X10_wrongPlace rfl 9 rfl (fun hc => ?_) (fun hc => ?_)
  · replace h := of_pos hc h
    refine Z_blk k_X10_wrongPlace 3 (pc' := 14) (lo' := [some (vR 15 20 0), some (vI a1), some (vI a2)]) (st' := [vI a1, vR 16 3 4]) (M1 := x1.2) rfl ?_
    obtain ⟨hc2, h⟩ := of_grd h
    refine Z_one k_X10_wrongPlace rfl (pc' := 15) (lo' := [some (vR 15 20 0), some (vI a1), some (vI a2)]) (st' := [vR (16 + 58 + 2 * (Int.toNat a1)) 16 0]) (M1 := x1.2) (if_pos hc2) ?_
    refine Z_blk k_X10_wrongPlace 1 (pc' := 18) (lo' := [some (vR 15 20 0), some (vI a1), some (vI a2)]) (st' := [vI (x1.2 (16 + 58 + 2 * (Int.toNat a1)) 1)]) (M1 := x1.2) rfl ?_
    refine Z_if k_X10_wrongPlace rfl 23 rfl (fun hc => ?_) (fun hc => ?_)
    · replace h := of_pos hc h
      refine Z_blk k_X10_wrongPlace 3 (pc' := 28) (lo' := [some (vR 15 20 0), some (vI a1), some (vI a2)]) (st' := [vI a1, vR 16 3 4]) (M1 := x1.2) rfl ?_
      refine Z_one k_X10_wrongPlace rfl (pc' := 29) (lo' := [some (vR 15 20 0), some (vI a1), some (vI a2)]) (st' := [vR (16 + 58 + 2 * (Int.toNat a1)) 16 0]) (M1 := x1.2) (if_pos hc2) ?_
      refine Z_blk k_X10_wrongPlace 2 (pc' := 31) (lo' := [some (vR 15 20 0), some (vI a1), some (vI a2)]) (st' := [vI 1, vI a2, vR (16 + 58 + 2 * (Int.toNat a1)) 16 0]) (M1 := x1.2) rfl ?_
      obtain ⟨x3, hx3, h⟩ := Option.bind_eq_some_iff.mp h
      refine Z_callV8 k_X10_wrongPlace k_X6_hasRow rfl rfl (l_10_144) (ci := 6) rfl [vI a2, vI 1] [] rfl rfl (Nat.le_of_ble_eq_true rfl) (Nat.le_of_ble_eq_true rfl) (e_X6_hasRow (d + 0) (16 + 58 + 2 * (Int.toNat a1)) a2 1 x1.2 _ _ hx3) ?_
      refine Z_if k_X10_wrongPlace rfl 41 rfl (fun hc => ?_) (fun hc => ?_)
      · replace h := of_pos hc h
        refine Z_blk k_X10_wrongPlace 1 (pc' := 42) (lo' := [some (vR 15 20 0), some (vI a1), some (vI a2)]) (st' := [vI 4]) (M1 := x3.2) rfl ?_
        cases h
        exact Z_ret ⟨Or.inl rfl, _, rfl⟩ rfl
      · replace h := of_neg hc h
        refine Z_blk k_X10_wrongPlace 2 (pc' := 42) (lo' := [some (vR 15 20 0), some (vI a1), some (vI a2)]) (st' := [vI 0]) (M1 := x3.2) rfl ?_
        cases h
        exact Z_ret ⟨Or.inl rfl, _, rfl⟩ rfl
    · replace h := of_neg hc h
      refine Z_blk k_X10_wrongPlace 1 (pc' := 22) (lo' := [some (vR 15 20 0), some (vI a1), some (vI a2)]) (st' := [vI 3]) (M1 := x1.2) rfl ?_
      cases h
      exact Z_ret ⟨Or.inl rfl, _, rfl⟩ rfl
  · replace h := of_neg hc h
    refine Z_blk k_X10_wrongPlace 1 (pc' := 8) (lo' := [some (vR 15 20 0), some (vI a1), some (vI a2)]) (st' := [vI 1]) (M1 := x1.2) rfl ?_
    cases h
    exact Z_ret ⟨Or.inl rfl, _, rfl⟩ rfl
