def f_X11_years_80 : Nat → Int → AM → Option (Int × AM)
  | 0, _, _ => none
  | n + 1, a2, M => if o_mul 9 (M 0 26) ≤ a2 then some (M 0 26, M) else (if 0 ≤ o_add 1505 a2 ∧ o_add 1505 a2 < 1775 then (if 0 ≤ o_add 85 a2 ∧ o_add 85 a2 < 1775 then (zlet (am_upd M 5 (Int.toNat (o_add 85 a2)) (M 5 (Int.toNat (o_add 1505 a2)))) fun M3 => f_X11_years_80 n (o_add a2 1) M3) else none) else none)
theorem e_X11_years_80 {Y : List (Nat × Nat)} (d : Nat) : ∀ (n : Nat) (a2 : Int) (M : AM) (x : Int) (N : AM), f_X11_years_80 n a2 M = some (x, N) → Ev Y (d + 15) m_X11_years 80 [some (vR 0 21 0), none, some (vI a2)] [] M (some (vI x)) N := by
  intro n
  induction n with
  | zero => intro a2 M x N h; cases h
  | succ n ih =>
    intro a2 M x N h
    simp only [f_X11_years_80] at h
    refine Z_blk k_X11_years 5 (pc' := 88) (lo' := [some (vR 0 21 0), none, some (vI a2)]) (st' := [vI (o_mul 9 (M 0 26)), vI a2]) (M1 := M) rfl ?_
    refine Z_icmp k_X11_years rfl 116 rfl (fun hc => ?_) (fun hc => ?_)
    · replace h := of_pos hc h
      refine Z_blk k_X11_years 2 (pc' := 120) (lo' := [some (vR 0 21 0), none, some (vI a2)]) (st' := [vI (M 0 26)]) (M1 := M) rfl ?_
      cases h
      exact Z_ret ⟨Or.inl rfl, _, rfl⟩ rfl
    · replace h := of_neg hc h
      refine Z_blk k_X11_years 10 (pc' := 108) (lo' := [some (vR 0 21 0), none, some (vI a2)]) (st' := [vI (o_add 1505 a2), vR 5 0 1775, vI (o_add 85 a2), vR 5 0 1775]) (M1 := M) rfl ?_
      obtain ⟨hc1, h⟩ := of_grd h
      refine Z_one k_X11_years rfl (pc' := 109) (lo' := [some (vR 0 21 0), none, some (vI a2)]) (st' := [vI (M 5 (Int.toNat (o_add 1505 a2))), vI (o_add 85 a2), vR 5 0 1775]) (M1 := M) (if_pos hc1) ?_
      obtain ⟨hc2, h⟩ := of_grd h
      obtain ⟨M3, eM3, h⟩ := of_zlet h
      refine Z_one k_X11_years rfl (pc' := 110) (lo' := [some (vR 0 21 0), none, some (vI a2)]) (st' := []) (M1 := M3) (by rw [eM3]; exact if_pos hc2) ?_
      refine Z_blk k_X11_years 2 (pc' := 80) (lo' := [some (vR 0 21 0), none, some (vI (o_add a2 1))]) (st' := []) (M1 := M3) rfl ?_
      refine Z_mask [true, false, true] (lo0 := [some (vR 0 21 0), none, some (vI (o_add a2 1))]) rfl ?_
      exact ih (o_add a2 1) M3 _ _ h
def f_X11_years_50 (M : AM) : Option (Int × AM) := (f_X11_isWell M).bind fun x1 => if ¬ x1.1 = 0 then (zlet (am_upd x1.2 5 (Int.toNat 83) 1) fun M2 => zlet (am_upd M2 5 (Int.toNat 84) (M2 0 26)) fun M3 => f_X11_years_80 zB 0 M3) else some ((-1), x1.2)
theorem e_X11_years_50 {Y : List (Nat × Nat)} (d : Nat) (M : AM) (x : Int) (N : AM) (h : f_X11_years_50 M = some (x, N)) : Ev Y (d + 15) m_X11_years 50 [some (vR 0 21 0), none, none] [] M (some (vI x)) N := by
  unfold f_X11_years_50 at h
  refine Z_blk k_X11_years 1 (pc' := 51) (lo' := [some (vR 0 21 0), none, none]) (st' := [vR 0 21 0]) (M1 := M) rfl ?_
  obtain ⟨x1, hx1, h⟩ := Option.bind_eq_some_iff.mp h
  refine Z_callV8 k_X11_years k_X11_isWell rfl rfl (l_11_291) (ci := 11) rfl [] [] rfl rfl (Nat.le_of_ble_eq_true rfl) (Nat.le_of_ble_eq_true rfl) (e_X11_isWell (d + 13) M _ _ hx1) ?_
  refine Z_if k_X11_years rfl 59 rfl (fun hc => ?_) (fun hc => ?_)
  · replace h := of_pos hc h
    refine Z_blk k_X11_years 4 (pc' := 66) (lo' := [some (vR 0 21 0), none, none]) (st' := [vI 1, vI 83, vR 5 0 1775]) (M1 := x1.2) rfl ?_
    obtain ⟨M2, eM2, h⟩ := of_zlet h
    refine Z_one k_X11_years rfl (pc' := 67) (lo' := [some (vR 0 21 0), none, none]) (st' := []) (M1 := M2) (by rw [eM2]; exact rfl) ?_
    refine Z_blk k_X11_years 5 (pc' := 77) (lo' := [some (vR 0 21 0), none, none]) (st' := [vI (M2 0 26), vI 84, vR 5 0 1775]) (M1 := M2) rfl ?_
    obtain ⟨M3, eM3, h⟩ := of_zlet h
    refine Z_one k_X11_years rfl (pc' := 78) (lo' := [some (vR 0 21 0), none, none]) (st' := []) (M1 := M3) (by rw [eM3]; exact rfl) ?_
    refine Z_blk k_X11_years 2 (pc' := 80) (lo' := [some (vR 0 21 0), none, some (vI 0)]) (st' := []) (M1 := M3) rfl ?_
    refine Z_mask [true, false, true] (lo0 := [some (vR 0 21 0), none, some (vI 0)]) rfl ?_
    exact e_X11_years_80 d zB 0 M3 _ _ h
  · replace h := of_neg hc h
    refine Z_blk k_X11_years 1 (pc' := 58) (lo' := [some (vR 0 21 0), none, none]) (st' := [vI (-1)]) (M1 := x1.2) rfl ?_
    cases h
    exact Z_ret ⟨Or.inl rfl, _, rfl⟩ rfl
def f_X11_years_28 : Nat → AM → Option (Int × AM)
  | 0, _ => none
  | n + 1, M => if ¬ M 0 12 = 0 then f_X11_years_50 M else (if M 0 14 = 0 then f_X11_years_50 M else ((f_X11_readStep 0 M).bind fun x1 => f_X11_years_28 n x1))
theorem e_X11_years_28 {Y : List (Nat × Nat)} (d : Nat) : ∀ (n : Nat) (M : AM) (x : Int) (N : AM), f_X11_years_28 n M = some (x, N) → Ev Y (d + 15) m_X11_years 28 [some (vR 0 21 0), none, none] [] M (some (vI x)) N := by
  intro n
  induction n with
  | zero => intro M x N h; cases h
  | succ n ih =>
    intro M x N h
    simp only [f_X11_years_28] at h
    refine Z_blk k_X11_years 2 (pc' := 32) (lo' := [some (vR 0 21 0), none, none]) (st' := [vI (M 0 12)]) (M1 := M) rfl ?_
    refine Z_if k_X11_years rfl 50 rfl (fun hc => ?_) (fun hc => ?_)
    · replace h := of_pos hc h
      refine Z_mask [true, false, false] (lo0 := [some (vR 0 21 0), none, none]) rfl ?_
      exact e_X11_years_50 d M _ _ h
    · replace h := of_neg hc h
      refine Z_blk k_X11_years 2 (pc' := 39) (lo' := [some (vR 0 21 0), none, none]) (st' := [vI (M 0 14)]) (M1 := M) rfl ?_
      refine Z_if k_X11_years rfl 50 rfl (fun hc => ?_) (fun hc => ?_)
      · replace h := of_pos hc h
        refine Z_mask [true, false, false] (lo0 := [some (vR 0 21 0), none, none]) rfl ?_
        exact e_X11_years_50 d M _ _ h
      · replace h := of_neg hc h
        refine Z_blk k_X11_years 2 (pc' := 44) (lo' := [some (vR 0 21 0), none, none]) (st' := [vI 0, vR 0 21 0]) (M1 := M) rfl ?_
        obtain ⟨x1, hx1, h⟩ := Option.bind_eq_some_iff.mp h
        refine Z_callV8 k_X11_years k_X11_readStep rfl rfl (l_11_306) (ci := 11) rfl [vI 0] [] rfl rfl (Nat.le_of_ble_eq_true rfl) (Nat.le_of_ble_eq_true rfl) (e_X11_readStep (d + 0) 0 M _ hx1) ?_
        refine Z_blk k_X11_years 1 (pc' := 28) (lo' := [some (vR 0 21 0), none, none]) (st' := []) (M1 := x1) rfl ?_
        refine Z_mask [true, false, false] (lo0 := [some (vR 0 21 0), none, none]) rfl ?_
        exact ih x1 _ _ h
def f_X11_years (a1 : Int) (M : AM) : Option (Int × AM) := zlet (am_upd M 0 1 0) fun M1 => zlet (am_upd M1 0 0 0) fun M2 => (f_X11_starts a1 300 M2).bind fun x3 => if ¬ x3.1 = 0 then (zlet (am_upd x3.2 0 26 0) fun M4 => f_X11_years_28 zB M4) else some ((-1), x3.2)
theorem e_X11_years {Y : List (Nat × Nat)} (d : Nat) (a1 : Int) (M : AM) (x : Int) (N : AM) (h : f_X11_years a1 M = some (x, N)) : Ev Y (d + 15) m_X11_years 0 [some (vR 0 21 0), some (vI a1), none] [] M (some (vI x)) N := by
  unfold f_X11_years at h
  obtain ⟨M1, eM1, h⟩ := of_zlet h
  refine Z_blk k_X11_years 3 (pc' := 5) (lo' := [some (vR 0 21 0), some (vI a1), none]) (st' := []) (M1 := M1) (by rw [eM1]; rfl) ?_
  obtain ⟨M2, eM2, h⟩ := of_zlet h
  refine Z_blk k_X11_years 3 (pc' := 10) (lo' := [some (vR 0 21 0), some (vI a1), none]) (st' := []) (M1 := M2) (by rw [eM2]; rfl) ?_
  refine Z_blk k_X11_years 3 (pc' := 15) (lo' := [some (vR 0 21 0), some (vI a1), none]) (st' := [vI 300, vI a1, vR 0 21 0]) (M1 := M2) rfl ?_
  obtain ⟨x3, hx3, h⟩ := Option.bind_eq_some_iff.mp h
  refine Z_callV8 k_X11_years k_X11_starts rfl rfl (l_11_282) (ci := 11) rfl [vI a1, vI 300] [] rfl rfl (Nat.le_of_ble_eq_true rfl) (Nat.le_of_ble_eq_true rfl) (e_X11_starts (d + 12) a1 300 M2 _ _ hx3) ?_
  refine Z_if k_X11_years rfl 23 rfl (fun hc => ?_) (fun hc => ?_)
  · replace h := of_pos hc h
    obtain ⟨M4, eM4, h⟩ := of_zlet h
    refine Z_blk k_X11_years 3 (pc' := 28) (lo' := [some (vR 0 21 0), some (vI a1), none]) (st' := []) (M1 := M4) (by rw [eM4]; rfl) ?_
    refine Z_mask [true, false, false] (lo0 := [some (vR 0 21 0), none, none]) rfl ?_
    exact e_X11_years_28 d zB M4 _ _ h
  · replace h := of_neg hc h
    refine Z_blk k_X11_years 1 (pc' := 22) (lo' := [some (vR 0 21 0), some (vI a1), none]) (st' := [vI (-1)]) (M1 := x3.2) rfl ?_
    cases h
    exact Z_ret ⟨Or.inl rfl, _, rfl⟩ rfl
def f_X11_laysFar_170 (k_146 : Int → AM → Option (AM)) (k_158 : Int → Int → AM → Option (AM)) : Nat → Int → Int → Int → AM → Option (AM)
  | 0, _, _, _, _ => none
  | n + 1, a1, a2, a3, M => if M 5 (Int.toNat 0) ≤ a3 then k_158 a1 (o_add a2 1) M else (if 0 ≤ o_add (o_mul 8 a2) a3 ∧ o_add (o_mul 8 a2) a3 < 64 then (if 0 ≤ o_add (o_mul 8 a2) a1 ∧ o_add (o_mul 8 a2) a1 < 64 then (if 0 ≤ o_add (o_mul 8 a1) a3 ∧ o_add (o_mul 8 a1) a3 < 64 then (zlet (am_upd M 9 (Int.toNat (o_add (o_mul 8 a2) a3)) (o_min (M 9 (Int.toNat (o_add (o_mul 8 a2) a3))) (o_add (M 9 (Int.toNat (o_add (o_mul 8 a2) a1))) (M 9 (Int.toNat (o_add (o_mul 8 a1) a3)))))) fun M4 => f_X11_laysFar_170 k_146 k_158 n a1 a2 (o_add a3 1) M4) else none) else none) else none)
theorem e_X11_laysFar_170 {Y : List (Nat × Nat)} (d : Nat) (k_146 : Int → AM → Option (AM)) (k_158 : Int → Int → AM → Option (AM)) (hk_146 : ∀ (a1 : Int) (M : AM) (N : AM), k_146 a1 M = some N → Ev Y (d + 0) m_X11_laysFar 146 [some (vR 0 21 0), some (vI a1), none, none, none] [] M none N) (hk_158 : ∀ (a1 : Int) (a2 : Int) (M : AM) (N : AM), k_158 a1 a2 M = some N → Ev Y (d + 0) m_X11_laysFar 158 [some (vR 0 21 0), some (vI a1), some (vI a2), none, none] [] M none N) : ∀ (n : Nat) (a1 : Int) (a2 : Int) (a3 : Int) (M : AM) (N : AM), f_X11_laysFar_170 k_146 k_158 n a1 a2 a3 M = some N → Ev Y (d + 0) m_X11_laysFar 170 [some (vR 0 21 0), some (vI a1), some (vI a2), some (vI a3), none] [] M none N := by
  intro n
  induction n with
  | zero => intro a1 a2 a3 M N h; cases h
  | succ n ih =>
    intro a1 a2 a3 M N h
    simp only [f_X11_laysFar_170] at h
    refine Z_blk k_X11_laysFar 4 (pc' := 176) (lo' := [some (vR 0 21 0), some (vI a1), some (vI a2), some (vI a3), none]) (st' := [vI 0, vR 5 0 1775, vI a3]) (M1 := M) rfl ?_
    refine Z_one k_X11_laysFar rfl (pc' := 177) (lo' := [some (vR 0 21 0), some (vI a1), some (vI a2), some (vI a3), none]) (st' := [vI (M 5 (Int.toNat 0)), vI a3]) (M1 := M) (rfl) ?_
    refine Z_icmp k_X11_laysFar rfl 234 rfl (fun hc => ?_) (fun hc => ?_)
    · replace h := of_pos hc h
      refine Z_blk k_X11_laysFar 2 (pc' := 158) (lo' := [some (vR 0 21 0), some (vI a1), some (vI (o_add a2 1)), some (vI a3), none]) (st' := []) (M1 := M) rfl ?_
      refine Z_mask [true, true, true, false, false] (lo0 := [some (vR 0 21 0), some (vI a1), some (vI (o_add a2 1)), none, none]) rfl ?_
      exact hk_158 a1 (o_add a2 1) M _ h
    · replace h := of_neg hc h
      refine Z_blk k_X11_laysFar 14 (pc' := 200) (lo' := [some (vR 0 21 0), some (vI a1), some (vI a2), some (vI a3), none]) (st' := [vI (o_add (o_mul 8 a2) a3), vR 9 0 64, vI (o_add (o_mul 8 a2) a3), vR 9 0 64]) (M1 := M) rfl ?_
      obtain ⟨hc1, h⟩ := of_grd h
      refine Z_one k_X11_laysFar rfl (pc' := 201) (lo' := [some (vR 0 21 0), some (vI a1), some (vI a2), some (vI a3), none]) (st' := [vI (M 9 (Int.toNat (o_add (o_mul 8 a2) a3))), vI (o_add (o_mul 8 a2) a3), vR 9 0 64]) (M1 := M) (if_pos hc1) ?_
      refine Z_blk k_X11_laysFar 7 (pc' := 211) (lo' := [some (vR 0 21 0), some (vI a1), some (vI a2), some (vI a3), none]) (st' := [vI (o_add (o_mul 8 a2) a1), vR 9 0 64, vI (M 9 (Int.toNat (o_add (o_mul 8 a2) a3))), vI (o_add (o_mul 8 a2) a3), vR 9 0 64]) (M1 := M) rfl ?_
      obtain ⟨hc2, h⟩ := of_grd h
      refine Z_one k_X11_laysFar rfl (pc' := 212) (lo' := [some (vR 0 21 0), some (vI a1), some (vI a2), some (vI a3), none]) (st' := [vI (M 9 (Int.toNat (o_add (o_mul 8 a2) a1))), vI (M 9 (Int.toNat (o_add (o_mul 8 a2) a3))), vI (o_add (o_mul 8 a2) a3), vR 9 0 64]) (M1 := M) (if_pos hc2) ?_
      refine Z_blk k_X11_laysFar 7 (pc' := 222) (lo' := [some (vR 0 21 0), some (vI a1), some (vI a2), some (vI a3), none]) (st' := [vI (o_add (o_mul 8 a1) a3), vR 9 0 64, vI (M 9 (Int.toNat (o_add (o_mul 8 a2) a1))), vI (M 9 (Int.toNat (o_add (o_mul 8 a2) a3))), vI (o_add (o_mul 8 a2) a3), vR 9 0 64]) (M1 := M) rfl ?_
      obtain ⟨hc3, h⟩ := of_grd h
      refine Z_one k_X11_laysFar rfl (pc' := 223) (lo' := [some (vR 0 21 0), some (vI a1), some (vI a2), some (vI a3), none]) (st' := [vI (M 9 (Int.toNat (o_add (o_mul 8 a1) a3))), vI (M 9 (Int.toNat (o_add (o_mul 8 a2) a1))), vI (M 9 (Int.toNat (o_add (o_mul 8 a2) a3))), vI (o_add (o_mul 8 a2) a3), vR 9 0 64]) (M1 := M) (if_pos hc3) ?_
      refine Z_blk k_X11_laysFar 2 (pc' := 227) (lo' := [some (vR 0 21 0), some (vI a1), some (vI a2), some (vI a3), none]) (st' := [vI (o_min (M 9 (Int.toNat (o_add (o_mul 8 a2) a3))) (o_add (M 9 (Int.toNat (o_add (o_mul 8 a2) a1))) (M 9 (Int.toNat (o_add (o_mul 8 a1) a3))))), vI (o_add (o_mul 8 a2) a3), vR 9 0 64]) (M1 := M) rfl ?_
      obtain ⟨M4, eM4, h⟩ := of_zlet h
      refine Z_one k_X11_laysFar rfl (pc' := 228) (lo' := [some (vR 0 21 0), some (vI a1), some (vI a2), some (vI a3), none]) (st' := []) (M1 := M4) (by rw [eM4]; exact if_pos hc1) ?_
      refine Z_blk k_X11_laysFar 2 (pc' := 170) (lo' := [some (vR 0 21 0), some (vI a1), some (vI a2), some (vI (o_add a3 1)), none]) (st' := []) (M1 := M4) rfl ?_
      refine Z_mask [true, true, true, true, false] (lo0 := [some (vR 0 21 0), some (vI a1), some (vI a2), some (vI (o_add a3 1)), none]) rfl ?_
      exact ih a1 a2 (o_add a3 1) M4 _ h
def f_X11_laysFar_158 (k_146 : Int → AM → Option (AM)) : Nat → Int → Int → AM → Option (AM)
  | 0, _, _, _ => none
  | n + 1, a1, a2, M => if M 5 (Int.toNat 0) ≤ a2 then k_146 (o_add a1 1) M else f_X11_laysFar_170 k_146 (f_X11_laysFar_158 k_146 n) zB a1 a2 0 M
theorem e_X11_laysFar_158 {Y : List (Nat × Nat)} (d : Nat) (k_146 : Int → AM → Option (AM)) (hk_146 : ∀ (a1 : Int) (M : AM) (N : AM), k_146 a1 M = some N → Ev Y (d + 0) m_X11_laysFar 146 [some (vR 0 21 0), some (vI a1), none, none, none] [] M none N) : ∀ (n : Nat) (a1 : Int) (a2 : Int) (M : AM) (N : AM), f_X11_laysFar_158 k_146 n a1 a2 M = some N → Ev Y (d + 0) m_X11_laysFar 158 [some (vR 0 21 0), some (vI a1), some (vI a2), none, none] [] M none N := by
  intro n
  induction n with
  | zero => intro a1 a2 M N h; cases h
  | succ n ih =>
    intro a1 a2 M N h
    simp only [f_X11_laysFar_158] at h
    refine Z_blk k_X11_laysFar 4 (pc' := 164) (lo' := [some (vR 0 21 0), some (vI a1), some (vI a2), none, none]) (st' := [vI 0, vR 5 0 1775, vI a2]) (M1 := M) rfl ?_
    refine Z_one k_X11_laysFar rfl (pc' := 165) (lo' := [some (vR 0 21 0), some (vI a1), some (vI a2), none, none]) (st' := [vI (M 5 (Int.toNat 0)), vI a2]) (M1 := M) (rfl) ?_
    refine Z_icmp k_X11_laysFar rfl 240 rfl (fun hc => ?_) (fun hc => ?_)
    · replace h := of_pos hc h
      refine Z_blk k_X11_laysFar 2 (pc' := 146) (lo' := [some (vR 0 21 0), some (vI (o_add a1 1)), some (vI a2), none, none]) (st' := []) (M1 := M) rfl ?_
      refine Z_mask [true, true, false, false, false] (lo0 := [some (vR 0 21 0), some (vI (o_add a1 1)), none, none, none]) rfl ?_
      exact hk_146 (o_add a1 1) M _ h
    · replace h := of_neg hc h
      refine Z_blk k_X11_laysFar 2 (pc' := 170) (lo' := [some (vR 0 21 0), some (vI a1), some (vI a2), some (vI 0), none]) (st' := []) (M1 := M) rfl ?_
      refine Z_mask [true, true, true, true, false] (lo0 := [some (vR 0 21 0), some (vI a1), some (vI a2), some (vI 0), none]) rfl ?_
      exact e_X11_laysFar_170 d k_146 (f_X11_laysFar_158 k_146 n) hk_146 ih zB a1 a2 0 M _ h
def f_X11_laysFar_146 : Nat → Int → AM → Option (AM)
  | 0, _, _ => none
  | n + 1, a1, M => if M 5 (Int.toNat 0) ≤ a1 then some M else f_X11_laysFar_158 (f_X11_laysFar_146 n) zB a1 0 M
theorem e_X11_laysFar_146 {Y : List (Nat × Nat)} (d : Nat) : ∀ (n : Nat) (a1 : Int) (M : AM) (N : AM), f_X11_laysFar_146 n a1 M = some N → Ev Y (d + 0) m_X11_laysFar 146 [some (vR 0 21 0), some (vI a1), none, none, none] [] M none N := by
  intro n
  induction n with
  | zero => intro a1 M N h; cases h
  | succ n ih =>
    intro a1 M N h
    simp only [f_X11_laysFar_146] at h
    refine Z_blk k_X11_laysFar 4 (pc' := 152) (lo' := [some (vR 0 21 0), some (vI a1), none, none, none]) (st' := [vI 0, vR 5 0 1775, vI a1]) (M1 := M) rfl ?_
    refine Z_one k_X11_laysFar rfl (pc' := 153) (lo' := [some (vR 0 21 0), some (vI a1), none, none, none]) (st' := [vI (M 5 (Int.toNat 0)), vI a1]) (M1 := M) (rfl) ?_
    refine Z_icmp k_X11_laysFar rfl 246 rfl (fun hc => ?_) (fun hc => ?_)
    · replace h := of_pos hc h
      cases h
      exact Z_ret ⟨rfl, _, rfl⟩ rfl
    · replace h := of_neg hc h
      refine Z_blk k_X11_laysFar 2 (pc' := 158) (lo' := [some (vR 0 21 0), some (vI a1), some (vI 0), none, none]) (st' := []) (M1 := M) rfl ?_
      refine Z_mask [true, true, true, false, false] (lo0 := [some (vR 0 21 0), some (vI a1), some (vI 0), none, none]) rfl ?_
      exact e_X11_laysFar_158 d (f_X11_laysFar_146 n) ih zB a1 0 M _ h
def f_X11_laysFar_40 : Nat → Int → AM → Option (AM)
  | 0, _, _ => none
  | n + 1, a1, M => if M 5 (Int.toNat 1) ≤ a1 then f_X11_laysFar_146 zB 0 M else (if 0 ≤ o_add 37 a1 ∧ o_add 37 a1 < 1775 then (if ¬ M 5 (Int.toNat (o_add 37 a1)) = 0 then (if 0 ≤ o_add 7 a1 ∧ o_add 7 a1 < 1775 then (if 0 ≤ o_add 17 a1 ∧ o_add 17 a1 < 1775 then (if 0 ≤ o_add (o_mul 8 (M 5 (Int.toNat (o_add 7 a1)))) (M 5 (Int.toNat (o_add 17 a1))) ∧ o_add (o_mul 8 (M 5 (Int.toNat (o_add 7 a1)))) (M 5 (Int.toNat (o_add 17 a1))) < 64 then (if 0 ≤ o_add 27 a1 ∧ o_add 27 a1 < 1775 then (zlet (o_min (M 9 (Int.toNat (o_add (o_mul 8 (M 5 (Int.toNat (o_add 7 a1)))) (M 5 (Int.toNat (o_add 17 a1)))))) (o_add 1 (M 5 (Int.toNat (o_add 27 a1))))) fun v6 => zlet (am_upd M 9 (Int.toNat (o_add (o_mul 8 (M 5 (Int.toNat (o_add 7 a1)))) (M 5 (Int.toNat (o_add 17 a1))))) v6) fun M7 => if 0 ≤ o_add (o_mul 8 (M 5 (Int.toNat (o_add 17 a1)))) (M 5 (Int.toNat (o_add 7 a1))) ∧ o_add (o_mul 8 (M 5 (Int.toNat (o_add 17 a1)))) (M 5 (Int.toNat (o_add 7 a1))) < 64 then (zlet (am_upd M7 9 (Int.toNat (o_add (o_mul 8 (M 5 (Int.toNat (o_add 17 a1)))) (M 5 (Int.toNat (o_add 7 a1))))) v6) fun M9 => f_X11_laysFar_40 n (o_add a1 1) M9) else none) else none) else none) else none) else none) else f_X11_laysFar_40 n (o_add a1 1) M) else none)
theorem e_X11_laysFar_40 {Y : List (Nat × Nat)} (d : Nat) : ∀ (n : Nat) (a1 : Int) (M : AM) (N : AM), f_X11_laysFar_40 n a1 M = some N → Ev Y (d + 0) m_X11_laysFar 40 [some (vR 0 21 0), some (vI a1), none, none, none] [] M none N := by
  intro n
  induction n with
  | zero => intro a1 M N h; cases h
  | succ n ih =>
    intro a1 M N h
    simp only [f_X11_laysFar_40] at h
    refine Z_blk k_X11_laysFar 4 (pc' := 46) (lo' := [some (vR 0 21 0), some (vI a1), none, none, none]) (st' := [vI 1, vR 5 0 1775, vI a1]) (M1 := M) rfl ?_
    refine Z_one k_X11_laysFar rfl (pc' := 47) (lo' := [some (vR 0 21 0), some (vI a1), none, none, none]) (st' := [vI (M 5 (Int.toNat 1)), vI a1]) (M1 := M) (rfl) ?_
    refine Z_icmp k_X11_laysFar rfl 144 rfl (fun hc => ?_) (fun hc => ?_)
    · replace h := of_pos hc h
      refine Z_blk k_X11_laysFar 2 (pc' := 146) (lo' := [some (vR 0 21 0), some (vI 0), none, none, none]) (st' := []) (M1 := M) rfl ?_
      refine Z_mask [true, true, false, false, false] (lo0 := [some (vR 0 21 0), some (vI 0), none, none, none]) rfl ?_
      exact e_X11_laysFar_146 d zB 0 M _ h
    · replace h := of_neg hc h
      refine Z_blk k_X11_laysFar 5 (pc' := 58) (lo' := [some (vR 0 21 0), some (vI a1), none, none, none]) (st' := [vI (o_add 37 a1), vR 5 0 1775]) (M1 := M) rfl ?_
      obtain ⟨hc1, h⟩ := of_grd h
      refine Z_one k_X11_laysFar rfl (pc' := 59) (lo' := [some (vR 0 21 0), some (vI a1), none, none, none]) (st' := [vI (M 5 (Int.toNat (o_add 37 a1)))]) (M1 := M) (if_pos hc1) ?_
      refine Z_if k_X11_laysFar rfl 65 rfl (fun hc => ?_) (fun hc => ?_)
      · replace h := of_pos hc h
        refine Z_blk k_X11_laysFar 5 (pc' := 73) (lo' := [some (vR 0 21 0), some (vI a1), none, none, none]) (st' := [vI (o_add 7 a1), vR 5 0 1775]) (M1 := M) rfl ?_
        obtain ⟨hc2, h⟩ := of_grd h
        refine Z_one k_X11_laysFar rfl (pc' := 74) (lo' := [some (vR 0 21 0), some (vI a1), none, none, none]) (st' := [vI (M 5 (Int.toNat (o_add 7 a1)))]) (M1 := M) (if_pos hc2) ?_
        refine Z_blk k_X11_laysFar 6 (pc' := 83) (lo' := [some (vR 0 21 0), some (vI a1), some (vI (M 5 (Int.toNat (o_add 7 a1)))), none, none]) (st' := [vI (o_add 17 a1), vR 5 0 1775]) (M1 := M) rfl ?_
        obtain ⟨hc3, h⟩ := of_grd h
        refine Z_one k_X11_laysFar rfl (pc' := 84) (lo' := [some (vR 0 21 0), some (vI a1), some (vI (M 5 (Int.toNat (o_add 7 a1)))), none, none]) (st' := [vI (M 5 (Int.toNat (o_add 17 a1)))]) (M1 := M) (if_pos hc3) ?_
        refine Z_blk k_X11_laysFar 8 (pc' := 95) (lo' := [some (vR 0 21 0), some (vI a1), some (vI (M 5 (Int.toNat (o_add 7 a1)))), some (vI (M 5 (Int.toNat (o_add 17 a1)))), none]) (st' := [vI (o_add (o_mul 8 (M 5 (Int.toNat (o_add 7 a1)))) (M 5 (Int.toNat (o_add 17 a1)))), vR 9 0 64]) (M1 := M) rfl ?_
        obtain ⟨hc4, h⟩ := of_grd h
        refine Z_one k_X11_laysFar rfl (pc' := 96) (lo' := [some (vR 0 21 0), some (vI a1), some (vI (M 5 (Int.toNat (o_add 7 a1)))), some (vI (M 5 (Int.toNat (o_add 17 a1)))), none]) (st' := [vI (M 9 (Int.toNat (o_add (o_mul 8 (M 5 (Int.toNat (o_add 7 a1)))) (M 5 (Int.toNat (o_add 17 a1))))))]) (M1 := M) (if_pos hc4) ?_
        refine Z_blk k_X11_laysFar 6 (pc' := 105) (lo' := [some (vR 0 21 0), some (vI a1), some (vI (M 5 (Int.toNat (o_add 7 a1)))), some (vI (M 5 (Int.toNat (o_add 17 a1)))), none]) (st' := [vI (o_add 27 a1), vR 5 0 1775, vI 1, vI (M 9 (Int.toNat (o_add (o_mul 8 (M 5 (Int.toNat (o_add 7 a1)))) (M 5 (Int.toNat (o_add 17 a1))))))]) (M1 := M) rfl ?_
        obtain ⟨hc5, h⟩ := of_grd h
        refine Z_one k_X11_laysFar rfl (pc' := 106) (lo' := [some (vR 0 21 0), some (vI a1), some (vI (M 5 (Int.toNat (o_add 7 a1)))), some (vI (M 5 (Int.toNat (o_add 17 a1)))), none]) (st' := [vI (M 5 (Int.toNat (o_add 27 a1))), vI 1, vI (M 9 (Int.toNat (o_add (o_mul 8 (M 5 (Int.toNat (o_add 7 a1)))) (M 5 (Int.toNat (o_add 17 a1))))))]) (M1 := M) (if_pos hc5) ?_
        obtain ⟨v6, ev6, h⟩ := of_zlet h
        refine Z_blk k_X11_laysFar 3 (pc' := 112) (lo' := [some (vR 0 21 0), some (vI a1), some (vI (M 5 (Int.toNat (o_add 7 a1)))), some (vI (M 5 (Int.toNat (o_add 17 a1)))), some (vI v6)]) (st' := []) (M1 := M) (by rw [ev6]; rfl) ?_
        refine Z_blk k_X11_laysFar 8 (pc' := 124) (lo' := [some (vR 0 21 0), some (vI a1), some (vI (M 5 (Int.toNat (o_add 7 a1)))), some (vI (M 5 (Int.toNat (o_add 17 a1)))), some (vI v6)]) (st' := [vI v6, vI (o_add (o_mul 8 (M 5 (Int.toNat (o_add 7 a1)))) (M 5 (Int.toNat (o_add 17 a1)))), vR 9 0 64]) (M1 := M) rfl ?_
        obtain ⟨M7, eM7, h⟩ := of_zlet h
        refine Z_one k_X11_laysFar rfl (pc' := 125) (lo' := [some (vR 0 21 0), some (vI a1), some (vI (M 5 (Int.toNat (o_add 7 a1)))), some (vI (M 5 (Int.toNat (o_add 17 a1)))), some (vI v6)]) (st' := []) (M1 := M7) (by rw [eM7]; exact if_pos hc4) ?_
        refine Z_blk k_X11_laysFar 8 (pc' := 137) (lo' := [some (vR 0 21 0), some (vI a1), some (vI (M 5 (Int.toNat (o_add 7 a1)))), some (vI (M 5 (Int.toNat (o_add 17 a1)))), some (vI v6)]) (st' := [vI v6, vI (o_add (o_mul 8 (M 5 (Int.toNat (o_add 17 a1)))) (M 5 (Int.toNat (o_add 7 a1)))), vR 9 0 64]) (M1 := M7) rfl ?_
        obtain ⟨hc8, h⟩ := of_grd h
        obtain ⟨M9, eM9, h⟩ := of_zlet h
        refine Z_one k_X11_laysFar rfl (pc' := 138) (lo' := [some (vR 0 21 0), some (vI a1), some (vI (M 5 (Int.toNat (o_add 7 a1)))), some (vI (M 5 (Int.toNat (o_add 17 a1)))), some (vI v6)]) (st' := []) (M1 := M9) (by rw [eM9]; exact if_pos hc8) ?_
        refine Z_blk k_X11_laysFar 2 (pc' := 40) (lo' := [some (vR 0 21 0), some (vI (o_add a1 1)), some (vI (M 5 (Int.toNat (o_add 7 a1)))), some (vI (M 5 (Int.toNat (o_add 17 a1)))), some (vI v6)]) (st' := []) (M1 := M9) rfl ?_
        refine Z_mask [true, true, false, false, false] (lo0 := [some (vR 0 21 0), some (vI (o_add a1 1)), none, none, none]) rfl ?_
        exact ih (o_add a1 1) M9 _ h
      · replace h := of_neg hc h
        refine Z_blk k_X11_laysFar 3 (pc' := 40) (lo' := [some (vR 0 21 0), some (vI (o_add a1 1)), none, none, none]) (st' := []) (M1 := M) rfl ?_
        refine Z_mask [true, true, false, false, false] (lo0 := [some (vR 0 21 0), some (vI (o_add a1 1)), none, none, none]) rfl ?_
        exact ih (o_add a1 1) M _ h
def f_X11_laysFar_2 : Nat → Int → AM → Option (AM)
  | 0, _, _ => none
  | n + 1, a1, M => if 64 ≤ a1 then f_X11_laysFar_40 zB 0 M else (if ¬ o_div a1 8 = o_rem a1 8 then (if 0 ≤ a1 ∧ a1 < 64 then (zlet (am_upd M 9 (Int.toNat a1) 1000) fun M2 => f_X11_laysFar_2 n (o_add a1 1) M2) else none) else (if 0 ≤ a1 ∧ a1 < 64 then (zlet (am_upd M 9 (Int.toNat a1) 0) fun M4 => f_X11_laysFar_2 n (o_add a1 1) M4) else none))
theorem e_X11_laysFar_2 {Y : List (Nat × Nat)} (d : Nat) : ∀ (n : Nat) (a1 : Int) (M : AM) (N : AM), f_X11_laysFar_2 n a1 M = some N → Ev Y (d + 0) m_X11_laysFar 2 [some (vR 0 21 0), some (vI a1), none, none, none] [] M none N := by
  intro n
  induction n with
  | zero => intro a1 M N h; cases h
  | succ n ih =>
    intro a1 M N h
    simp only [f_X11_laysFar_2] at h
    refine Z_blk k_X11_laysFar 2 (pc' := 5) (lo' := [some (vR 0 21 0), some (vI a1), none, none, none]) (st' := [vI 64, vI a1]) (M1 := M) rfl ?_
    refine Z_icmp k_X11_laysFar rfl 38 rfl (fun hc => ?_) (fun hc => ?_)
    · replace h := of_pos hc h
      refine Z_blk k_X11_laysFar 2 (pc' := 40) (lo' := [some (vR 0 21 0), some (vI 0), none, none, none]) (st' := []) (M1 := M) rfl ?_
      refine Z_mask [true, true, false, false, false] (lo0 := [some (vR 0 21 0), some (vI 0), none, none, none]) rfl ?_
      exact e_X11_laysFar_40 d zB 0 M _ h
    · replace h := of_neg hc h
      refine Z_blk k_X11_laysFar 5 (pc' := 16) (lo' := [some (vR 0 21 0), some (vI a1), none, none, none]) (st' := [vI 8, vI a1, vI a1, vR 9 0 64]) (M1 := M) rfl ?_
      refine Z_one k_X11_laysFar rfl (pc' := 17) (lo' := [some (vR 0 21 0), some (vI a1), none, none, none]) (st' := [vI (o_div a1 8), vI a1, vR 9 0 64]) (M1 := M) (rfl) ?_
      refine Z_blk k_X11_laysFar 2 (pc' := 20) (lo' := [some (vR 0 21 0), some (vI a1), none, none, none]) (st' := [vI 8, vI a1, vI (o_div a1 8), vI a1, vR 9 0 64]) (M1 := M) rfl ?_
      refine Z_one k_X11_laysFar rfl (pc' := 21) (lo' := [some (vR 0 21 0), some (vI a1), none, none, none]) (st' := [vI (o_rem a1 8), vI (o_div a1 8), vI a1, vR 9 0 64]) (M1 := M) (rfl) ?_
      refine Z_icmp k_X11_laysFar rfl 28 rfl (fun hc => ?_) (fun hc => ?_)
      · replace h := of_pos hc h
        refine Z_blk k_X11_laysFar 1 (pc' := 31) (lo' := [some (vR 0 21 0), some (vI a1), none, none, none]) (st' := [vI 1000, vI a1, vR 9 0 64]) (M1 := M) rfl ?_
        obtain ⟨hc1, h⟩ := of_grd h
        obtain ⟨M2, eM2, h⟩ := of_zlet h
        refine Z_one k_X11_laysFar rfl (pc' := 32) (lo' := [some (vR 0 21 0), some (vI a1), none, none, none]) (st' := []) (M1 := M2) (by rw [eM2]; exact if_pos hc1) ?_
        refine Z_blk k_X11_laysFar 2 (pc' := 2) (lo' := [some (vR 0 21 0), some (vI (o_add a1 1)), none, none, none]) (st' := []) (M1 := M2) rfl ?_
        refine Z_mask [true, true, false, false, false] (lo0 := [some (vR 0 21 0), some (vI (o_add a1 1)), none, none, none]) rfl ?_
        exact ih (o_add a1 1) M2 _ h
      · replace h := of_neg hc h
        refine Z_blk k_X11_laysFar 2 (pc' := 31) (lo' := [some (vR 0 21 0), some (vI a1), none, none, none]) (st' := [vI 0, vI a1, vR 9 0 64]) (M1 := M) rfl ?_
        obtain ⟨hc3, h⟩ := of_grd h
        obtain ⟨M4, eM4, h⟩ := of_zlet h
        refine Z_one k_X11_laysFar rfl (pc' := 32) (lo' := [some (vR 0 21 0), some (vI a1), none, none, none]) (st' := []) (M1 := M4) (by rw [eM4]; exact if_pos hc3) ?_
        refine Z_blk k_X11_laysFar 2 (pc' := 2) (lo' := [some (vR 0 21 0), some (vI (o_add a1 1)), none, none, none]) (st' := []) (M1 := M4) rfl ?_
        refine Z_mask [true, true, false, false, false] (lo0 := [some (vR 0 21 0), some (vI (o_add a1 1)), none, none, none]) rfl ?_
        exact ih (o_add a1 1) M4 _ h
def f_X11_laysFar (M : AM) : Option (AM) := f_X11_laysFar_2 zB 0 M
theorem e_X11_laysFar {Y : List (Nat × Nat)} (d : Nat) (M : AM) (N : AM) (h : f_X11_laysFar M = some N) : Ev Y (d + 0) m_X11_laysFar 0 [some (vR 0 21 0), none, none, none, none] [] M none N := by
  unfold f_X11_laysFar at h
  refine Z_blk k_X11_laysFar 2 (pc' := 2) (lo' := [some (vR 0 21 0), some (vI 0), none, none, none]) (st' := []) (M1 := M) rfl ?_
  refine Z_mask [true, true, false, false, false] (lo0 := [some (vR 0 21 0), some (vI 0), none, none, none]) rfl ?_
  exact e_X11_laysFar_2 d zB 0 M _ h
def f_X11_farOf (a1 : Int) (a2 : Int) (M : AM) : Option (Int × AM) := if 0 ≤ o_add (o_mul 8 a1) a2 ∧ o_add (o_mul 8 a1) a2 < 64 then some (M 9 (Int.toNat (o_add (o_mul 8 a1) a2)), M) else none
theorem e_X11_farOf {Y : List (Nat × Nat)} (d : Nat) (a1 : Int) (a2 : Int) (M : AM) (x : Int) (N : AM) (h : f_X11_farOf a1 a2 M = some (x, N)) : Ev Y (d + 0) m_X11_farOf 0 [some (vR 0 21 0), some (vI a1), some (vI a2)] [] M (some (vI x)) N := by
  unfold f_X11_farOf at h
  refine Z_blk k_X11_farOf 7 (pc' := 10) (lo' := [some (vR 0 21 0), some (vI a1), some (vI a2)]) (st' := [vI (o_add (o_mul 8 a1) a2), vR 9 0 64]) (M1 := M) rfl ?_
  obtain ⟨hc1, h⟩ := of_grd h
  refine Z_one k_X11_farOf rfl (pc' := 11) (lo' := [some (vR 0 21 0), some (vI a1), some (vI a2)]) (st' := [vI (M 9 (Int.toNat (o_add (o_mul 8 a1) a2)))]) (M1 := M) (if_pos hc1) ?_
  cases h
  exact Z_ret ⟨Or.inl rfl, _, rfl⟩ rfl
theorem l_11_312 : zhas 7188 (Jvm.Cond.methodLink "BellPullHouseModel" 312 yX11_farOf) = true := by decide +kernel
def f_X11_isHeard (a1 : Int) (a2 : Int) (M : AM) : Option (Int × AM) := (f_X11_farOf a1 a2 M).bind fun x1 => if x1.2 5 (Int.toNat 3) < x1.1 then some (0, x1.2) else some (1, x1.2)
theorem e_X11_isHeard {Y : List (Nat × Nat)} (d : Nat) (a1 : Int) (a2 : Int) (M : AM) (x : Int) (N : AM) (h : f_X11_isHeard a1 a2 M = some (x, N)) : Ev Y (d + 1) m_X11_isHeard 0 [some (vR 0 21 0), some (vI a1), some (vI a2)] [] M (some (vI x)) N := by
  unfold f_X11_isHeard at h
  refine Z_blk k_X11_isHeard 3 (pc' := 3) (lo' := [some (vR 0 21 0), some (vI a1), some (vI a2)]) (st' := [vI a2, vI a1, vR 0 21 0]) (M1 := M) rfl ?_
  obtain ⟨x1, hx1, h⟩ := Option.bind_eq_some_iff.mp h
  refine Z_callV8 k_X11_isHeard k_X11_farOf rfl rfl (l_11_312) (ci := 11) rfl [vI a1, vI a2] [] rfl rfl (Nat.le_of_ble_eq_true rfl) (Nat.le_of_ble_eq_true rfl) (e_X11_farOf (d + 0) a1 a2 M _ _ hx1) ?_
  refine Z_blk k_X11_isHeard 3 (pc' := 11) (lo' := [some (vR 0 21 0), some (vI a1), some (vI a2)]) (st' := [vI 3, vR 5 0 1775, vI x1.1]) (M1 := x1.2) rfl ?_
  refine Z_one k_X11_isHeard rfl (pc' := 12) (lo' := [some (vR 0 21 0), some (vI a1), some (vI a2)]) (st' := [vI (x1.2 5 (Int.toNat 3)), vI x1.1]) (M1 := x1.2) (rfl) ?_
  refine Z_icmp k_X11_isHeard rfl 19 rfl (fun hc => ?_) (fun hc => ?_)
  · replace h := of_pos hc h
    refine Z_blk k_X11_isHeard 1 (pc' := 20) (lo' := [some (vR 0 21 0), some (vI a1), some (vI a2)]) (st' := [vI 0]) (M1 := x1.2) rfl ?_
    cases h
    exact Z_ret ⟨Or.inr ⟨rfl, Or.inl rfl⟩, _, rfl⟩ rfl
  · replace h := of_neg hc h
    refine Z_blk k_X11_isHeard 2 (pc' := 20) (lo' := [some (vR 0 21 0), some (vI a1), some (vI a2)]) (st' := [vI 1]) (M1 := x1.2) rfl ?_
    cases h
    exact Z_ret ⟨Or.inr ⟨rfl, Or.inr rfl⟩, _, rfl⟩ rfl
theorem l_11_315 : zhas 7184 (Jvm.Cond.methodLink "BellPullHouseModel" 315 yX11_isHeard) = true := by decide +kernel
def f_X11_isRungNow (a1 : Int) (M : AM) : Option (Int × AM) := if 0 ≤ o_add 47 a1 ∧ o_add 47 a1 < 1775 then (if 0 ≤ o_add 53 a1 ∧ o_add 53 a1 < 1775 then ((f_X11_isHeard (M 5 (Int.toNat (o_add 47 a1))) (M 5 (Int.toNat (o_add 53 a1))) M).bind fun x3 => if x3.1 = 0 ∨ x3.1 = 1 then some (x3.1, x3.2) else none) else none) else none
theorem e_X11_isRungNow {Y : List (Nat × Nat)} (d : Nat) (a1 : Int) (M : AM) (x : Int) (N : AM) (h : f_X11_isRungNow a1 M = some (x, N)) : Ev Y (d + 2) m_X11_isRungNow 0 [some (vR 0 21 0), some (vI a1)] [] M (some (vI x)) N := by
  unfold f_X11_isRungNow at h
  refine Z_blk k_X11_isRungNow 6 (pc' := 9) (lo' := [some (vR 0 21 0), some (vI a1)]) (st' := [vI (o_add 47 a1), vR 5 0 1775, vR 0 21 0]) (M1 := M) rfl ?_
  obtain ⟨hc1, h⟩ := of_grd h
  refine Z_one k_X11_isRungNow rfl (pc' := 10) (lo' := [some (vR 0 21 0), some (vI a1)]) (st' := [vI (M 5 (Int.toNat (o_add 47 a1))), vR 0 21 0]) (M1 := M) (if_pos hc1) ?_
  refine Z_blk k_X11_isRungNow 5 (pc' := 18) (lo' := [some (vR 0 21 0), some (vI a1)]) (st' := [vI (o_add 53 a1), vR 5 0 1775, vI (M 5 (Int.toNat (o_add 47 a1))), vR 0 21 0]) (M1 := M) rfl ?_
  obtain ⟨hc2, h⟩ := of_grd h
  refine Z_one k_X11_isRungNow rfl (pc' := 19) (lo' := [some (vR 0 21 0), some (vI a1)]) (st' := [vI (M 5 (Int.toNat (o_add 53 a1))), vI (M 5 (Int.toNat (o_add 47 a1))), vR 0 21 0]) (M1 := M) (if_pos hc2) ?_
  obtain ⟨x3, hx3, h⟩ := Option.bind_eq_some_iff.mp h
  refine Z_callV8 k_X11_isRungNow k_X11_isHeard rfl rfl (l_11_315) (ci := 11) rfl [vI (M 5 (Int.toNat (o_add 47 a1))), vI (M 5 (Int.toNat (o_add 53 a1)))] [] rfl rfl (Nat.le_of_ble_eq_true rfl) (Nat.le_of_ble_eq_true rfl) (e_X11_isHeard (d + 0) (M 5 (Int.toNat (o_add 47 a1))) (M 5 (Int.toNat (o_add 53 a1))) M _ _ hx3) ?_
  obtain ⟨hc4, h⟩ := of_grd h
  cases h
  exact Z_ret ⟨Or.inr ⟨rfl, hc4⟩, _, rfl⟩ rfl
theorem l_11_318 : zhas 7175 (Jvm.Cond.methodLink "BellPullHouseModel" 318 yX11_laysFar) = true := by decide +kernel
theorem l_11_321 : zhas 7180 (Jvm.Cond.methodLink "BellPullHouseModel" 321 yX11_isRungNow) = true := by decide +kernel
def f_X11_rung_8 : Nat → Int → Int → AM → Option (Int × AM)
  | 0, _, _, _ => none
  | n + 1, a1, a2, M => if M 5 (Int.toNat 2) ≤ a2 then some (a1, M) else ((f_X11_isRungNow a2 M).bind fun x1 => if x1.1 = 0 then f_X11_rung_8 n (o_or a1 0) (o_add a2 1) x1.2 else f_X11_rung_8 n (o_or a1 (o_shl 1 a2)) (o_add a2 1) x1.2)
theorem e_X11_rung_8 {Y : List (Nat × Nat)} (d : Nat) : ∀ (n : Nat) (a1 : Int) (a2 : Int) (M : AM) (x : Int) (N : AM), f_X11_rung_8 n a1 a2 M = some (x, N) → Ev Y (d + 3) m_X11_rung 8 [some (vR 0 21 0), some (vI a1), some (vI a2)] [] M (some (vI x)) N := by
  intro n
  induction n with
  | zero => intro a1 a2 M x N h; cases h
  | succ n ih =>
    intro a1 a2 M x N h
    simp only [f_X11_rung_8] at h
    refine Z_blk k_X11_rung 4 (pc' := 14) (lo' := [some (vR 0 21 0), some (vI a1), some (vI a2)]) (st' := [vI 2, vR 5 0 1775, vI a2]) (M1 := M) rfl ?_
    refine Z_one k_X11_rung rfl (pc' := 15) (lo' := [some (vR 0 21 0), some (vI a1), some (vI a2)]) (st' := [vI (M 5 (Int.toNat 2)), vI a2]) (M1 := M) (rfl) ?_
    refine Z_icmp k_X11_rung rfl 42 rfl (fun hc => ?_) (fun hc => ?_)
    · replace h := of_pos hc h
      refine Z_blk k_X11_rung 1 (pc' := 43) (lo' := [some (vR 0 21 0), some (vI a1), some (vI a2)]) (st' := [vI a1]) (M1 := M) rfl ?_
      cases h
      exact Z_ret ⟨Or.inl rfl, _, rfl⟩ rfl
    · replace h := of_neg hc h
      refine Z_blk k_X11_rung 3 (pc' := 21) (lo' := [some (vR 0 21 0), some (vI a1), some (vI a2)]) (st' := [vI a2, vR 0 21 0, vI a1]) (M1 := M) rfl ?_
      obtain ⟨x1, hx1, h⟩ := Option.bind_eq_some_iff.mp h
      refine Z_callV8 k_X11_rung k_X11_isRungNow rfl rfl (l_11_321) (ci := 11) rfl [vI a2] [vI a1] rfl rfl (Nat.le_of_ble_eq_true rfl) (Nat.le_of_ble_eq_true rfl) (e_X11_isRungNow (d + 0) a2 M _ _ hx1) ?_
      refine Z_if k_X11_rung rfl 33 rfl (fun hc => ?_) (fun hc => ?_)
      · replace h := of_pos hc h
        refine Z_blk k_X11_rung 5 (pc' := 8) (lo' := [some (vR 0 21 0), some (vI (o_or a1 0)), some (vI (o_add a2 1))]) (st' := []) (M1 := x1.2) rfl ?_
        refine Z_mask [true, true, true] (lo0 := [some (vR 0 21 0), some (vI (o_or a1 0)), some (vI (o_add a2 1))]) rfl ?_
        exact ih (o_or a1 0) (o_add a2 1) x1.2 _ _ h
      · replace h := of_neg hc h
        refine Z_blk k_X11_rung 8 (pc' := 8) (lo' := [some (vR 0 21 0), some (vI (o_or a1 (o_shl 1 a2))), some (vI (o_add a2 1))]) (st' := []) (M1 := x1.2) rfl ?_
        refine Z_mask [true, true, true] (lo0 := [some (vR 0 21 0), some (vI (o_or a1 (o_shl 1 a2))), some (vI (o_add a2 1))]) rfl ?_
        exact ih (o_or a1 (o_shl 1 a2)) (o_add a2 1) x1.2 _ _ h
def f_X11_rung (M : AM) : Option (Int × AM) := (f_X11_laysFar M).bind fun x1 => f_X11_rung_8 zB 0 0 x1
theorem e_X11_rung {Y : List (Nat × Nat)} (d : Nat) (M : AM) (x : Int) (N : AM) (h : f_X11_rung M = some (x, N)) : Ev Y (d + 3) m_X11_rung 0 [some (vR 0 21 0), none, none] [] M (some (vI x)) N := by
  unfold f_X11_rung at h
  refine Z_blk k_X11_rung 3 (pc' := 3) (lo' := [some (vR 0 21 0), some (vI 0), none]) (st' := [vR 0 21 0]) (M1 := M) rfl ?_
  obtain ⟨x1, hx1, h⟩ := Option.bind_eq_some_iff.mp h
  refine Z_callV8 k_X11_rung k_X11_laysFar rfl rfl (l_11_318) (ci := 11) rfl [] [] rfl rfl (Nat.le_of_ble_eq_true rfl) (Nat.le_of_ble_eq_true rfl) (e_X11_laysFar (d + 2) M _ hx1) ?_
  refine Z_blk k_X11_rung 2 (pc' := 8) (lo' := [some (vR 0 21 0), some (vI 0), some (vI 0)]) (st' := []) (M1 := x1) rfl ?_
  refine Z_mask [true, true, true] (lo0 := [some (vR 0 21 0), some (vI 0), some (vI 0)]) rfl ?_
  exact e_X11_rung_8 d zB 0 0 x1 _ _ h
def f_X11_isRoomAt (a1 : Int) (M : AM) : Option (Int × AM) := (f_X11_isIn a1 0 (o_sub (M 5 (Int.toNat 0)) 1) M).bind fun x1 => if x1.1 = 0 ∨ x1.1 = 1 then some (x1.1, x1.2) else none
theorem e_X11_isRoomAt {Y : List (Nat × Nat)} (d : Nat) (a1 : Int) (M : AM) (x : Int) (N : AM) (h : f_X11_isRoomAt a1 M = some (x, N)) : Ev Y (d + 1) m_X11_isRoomAt 0 [some (vR 0 21 0), some (vI a1)] [] M (some (vI x)) N := by
  unfold f_X11_isRoomAt at h
  refine Z_blk k_X11_isRoomAt 6 (pc' := 8) (lo' := [some (vR 0 21 0), some (vI a1)]) (st' := [vI 0, vR 5 0 1775, vL 0, vL a1]) (M1 := M) rfl ?_
  refine Z_one k_X11_isRoomAt rfl (pc' := 9) (lo' := [some (vR 0 21 0), some (vI a1)]) (st' := [vI (M 5 (Int.toNat 0)), vL 0, vL a1]) (M1 := M) (rfl) ?_
  refine Z_blk k_X11_isRoomAt 3 (pc' := 12) (lo' := [some (vR 0 21 0), some (vI a1)]) (st' := [vL (o_sub (M 5 (Int.toNat 0)) 1), vL 0, vL a1]) (M1 := M) rfl ?_
  obtain ⟨x1, hx1, h⟩ := Option.bind_eq_some_iff.mp h
  refine Z_callS8 k_X11_isRoomAt k_X11_isIn rfl rfl (l_11_104) [vL a1, vL 0, vL (o_sub (M 5 (Int.toNat 0)) 1)] [] rfl rfl (Nat.le_of_ble_eq_true rfl) (Nat.le_of_ble_eq_true rfl) (e_X11_isIn (d + 0) a1 0 (o_sub (M 5 (Int.toNat 0)) 1) M _ _ hx1) ?_
  obtain ⟨hc2, h⟩ := of_grd h
  cases h
  exact Z_ret ⟨Or.inr ⟨rfl, hc2⟩, _, rfl⟩ rfl
def f_X11_isWireAt (a1 : Int) (M : AM) : Option (Int × AM) := (f_X11_isIn a1 0 (o_sub (M 5 (Int.toNat 1)) 1) M).bind fun x1 => if x1.1 = 0 ∨ x1.1 = 1 then some (x1.1, x1.2) else none
theorem e_X11_isWireAt {Y : List (Nat × Nat)} (d : Nat) (a1 : Int) (M : AM) (x : Int) (N : AM) (h : f_X11_isWireAt a1 M = some (x, N)) : Ev Y (d + 1) m_X11_isWireAt 0 [some (vR 0 21 0), some (vI a1)] [] M (some (vI x)) N := by
  unfold f_X11_isWireAt at h
  refine Z_blk k_X11_isWireAt 6 (pc' := 8) (lo' := [some (vR 0 21 0), some (vI a1)]) (st' := [vI 1, vR 5 0 1775, vL 0, vL a1]) (M1 := M) rfl ?_
  refine Z_one k_X11_isWireAt rfl (pc' := 9) (lo' := [some (vR 0 21 0), some (vI a1)]) (st' := [vI (M 5 (Int.toNat 1)), vL 0, vL a1]) (M1 := M) (rfl) ?_
  refine Z_blk k_X11_isWireAt 3 (pc' := 12) (lo' := [some (vR 0 21 0), some (vI a1)]) (st' := [vL (o_sub (M 5 (Int.toNat 1)) 1), vL 0, vL a1]) (M1 := M) rfl ?_
  obtain ⟨x1, hx1, h⟩ := Option.bind_eq_some_iff.mp h
  refine Z_callS8 k_X11_isWireAt k_X11_isIn rfl rfl (l_11_104) [vL a1, vL 0, vL (o_sub (M 5 (Int.toNat 1)) 1)] [] rfl rfl (Nat.le_of_ble_eq_true rfl) (Nat.le_of_ble_eq_true rfl) (e_X11_isIn (d + 0) a1 0 (o_sub (M 5 (Int.toNat 1)) 1) M _ _ hx1) ?_
  obtain ⟨hc2, h⟩ := of_grd h
  cases h
  exact Z_ret ⟨Or.inr ⟨rfl, hc2⟩, _, rfl⟩ rfl
def f_X11_isCoupleAt (a1 : Int) (M : AM) : Option (Int × AM) := (f_X11_isIn a1 0 (o_sub (M 5 (Int.toNat 2)) 1) M).bind fun x1 => if x1.1 = 0 ∨ x1.1 = 1 then some (x1.1, x1.2) else none
theorem e_X11_isCoupleAt {Y : List (Nat × Nat)} (d : Nat) (a1 : Int) (M : AM) (x : Int) (N : AM) (h : f_X11_isCoupleAt a1 M = some (x, N)) : Ev Y (d + 1) m_X11_isCoupleAt 0 [some (vR 0 21 0), some (vI a1)] [] M (some (vI x)) N := by
  unfold f_X11_isCoupleAt at h
  refine Z_blk k_X11_isCoupleAt 6 (pc' := 8) (lo' := [some (vR 0 21 0), some (vI a1)]) (st' := [vI 2, vR 5 0 1775, vL 0, vL a1]) (M1 := M) rfl ?_
  refine Z_one k_X11_isCoupleAt rfl (pc' := 9) (lo' := [some (vR 0 21 0), some (vI a1)]) (st' := [vI (M 5 (Int.toNat 2)), vL 0, vL a1]) (M1 := M) (rfl) ?_
  refine Z_blk k_X11_isCoupleAt 3 (pc' := 12) (lo' := [some (vR 0 21 0), some (vI a1)]) (st' := [vL (o_sub (M 5 (Int.toNat 2)) 1), vL 0, vL a1]) (M1 := M) rfl ?_
  obtain ⟨x1, hx1, h⟩ := Option.bind_eq_some_iff.mp h
  refine Z_callS8 k_X11_isCoupleAt k_X11_isIn rfl rfl (l_11_104) [vL a1, vL 0, vL (o_sub (M 5 (Int.toNat 2)) 1)] [] rfl rfl (Nat.le_of_ble_eq_true rfl) (Nat.le_of_ble_eq_true rfl) (e_X11_isIn (d + 0) a1 0 (o_sub (M 5 (Int.toNat 2)) 1) M _ _ hx1) ?_
  obtain ⟨hc2, h⟩ := of_grd h
  cases h
  exact Z_ret ⟨Or.inr ⟨rfl, hc2⟩, _, rfl⟩ rfl
def f_X11_setOf_5 : Nat → Int → Int → Int → Int → AM → Option (Int × AM)
  | 0, _, _, _, _, _ => none
  | n + 1, a1, a2, a3, a4, M => if a2 ≤ a4 then some (a3, M) else (if 0 ≤ o_add a1 a4 ∧ o_add a1 a4 < 1775 then (zlet (o_or a3 (o_shl (M 5 (Int.toNat (o_add a1 a4))) a4)) fun v2 => f_X11_setOf_5 n a1 a2 v2 (o_add a4 1) M) else none)
theorem e_X11_setOf_5 {Y : List (Nat × Nat)} (d : Nat) : ∀ (n : Nat) (a1 : Int) (a2 : Int) (a3 : Int) (a4 : Int) (M : AM) (x : Int) (N : AM), f_X11_setOf_5 n a1 a2 a3 a4 M = some (x, N) → Ev Y (d + 0) m_X11_setOf 5 [some (vR 0 21 0), some (vI a1), some (vI a2), some (vI a3), some (vI a4)] [] M (some (vI x)) N := by
  intro n
  induction n with
  | zero => intro a1 a2 a3 a4 M x N h; cases h
  | succ n ih =>
    intro a1 a2 a3 a4 M x N h
    simp only [f_X11_setOf_5] at h
    refine Z_blk k_X11_setOf 2 (pc' := 8) (lo' := [some (vR 0 21 0), some (vI a1), some (vI a2), some (vI a3), some (vI a4)]) (st' := [vI a2, vI a4]) (M1 := M) rfl ?_
    refine Z_icmp k_X11_setOf rfl 32 rfl (fun hc => ?_) (fun hc => ?_)
    · replace h := of_pos hc h
      refine Z_blk k_X11_setOf 1 (pc' := 33) (lo' := [some (vR 0 21 0), some (vI a1), some (vI a2), some (vI a3), some (vI a4)]) (st' := [vI a3]) (M1 := M) rfl ?_
      cases h
      exact Z_ret ⟨Or.inl rfl, _, rfl⟩ rfl
    · replace h := of_neg hc h
      refine Z_blk k_X11_setOf 6 (pc' := 20) (lo' := [some (vR 0 21 0), some (vI a1), some (vI a2), some (vI a3), some (vI a4)]) (st' := [vI (o_add a1 a4), vR 5 0 1775, vI a3]) (M1 := M) rfl ?_
      obtain ⟨hc1, h⟩ := of_grd h
      refine Z_one k_X11_setOf rfl (pc' := 21) (lo' := [some (vR 0 21 0), some (vI a1), some (vI a2), some (vI a3), some (vI a4)]) (st' := [vI (M 5 (Int.toNat (o_add a1 a4))), vI a3]) (M1 := M) (if_pos hc1) ?_
      obtain ⟨v2, ev2, h⟩ := of_zlet h
      refine Z_blk k_X11_setOf 4 (pc' := 26) (lo' := [some (vR 0 21 0), some (vI a1), some (vI a2), some (vI v2), some (vI a4)]) (st' := []) (M1 := M) (by rw [ev2]; rfl) ?_
      refine Z_blk k_X11_setOf 2 (pc' := 5) (lo' := [some (vR 0 21 0), some (vI a1), some (vI a2), some (vI v2), some (vI (o_add a4 1))]) (st' := []) (M1 := M) rfl ?_
      refine Z_mask [true, true, true, true, true] (lo0 := [some (vR 0 21 0), some (vI a1), some (vI a2), some (vI v2), some (vI (o_add a4 1))]) rfl ?_
      exact ih a1 a2 v2 (o_add a4 1) M _ _ h
def f_X11_setOf (a1 : Int) (a2 : Int) (M : AM) : Option (Int × AM) := f_X11_setOf_5 zB a1 a2 0 0 M
theorem e_X11_setOf {Y : List (Nat × Nat)} (d : Nat) (a1 : Int) (a2 : Int) (M : AM) (x : Int) (N : AM) (h : f_X11_setOf a1 a2 M = some (x, N)) : Ev Y (d + 0) m_X11_setOf 0 [some (vR 0 21 0), some (vI a1), some (vI a2), none, none] [] M (some (vI x)) N := by
  unfold f_X11_setOf at h
  refine Z_blk k_X11_setOf 4 (pc' := 5) (lo' := [some (vR 0 21 0), some (vI a1), some (vI a2), some (vI 0), some (vI 0)]) (st' := []) (M1 := M) rfl ?_
  refine Z_mask [true, true, true, true, true] (lo0 := [some (vR 0 21 0), some (vI a1), some (vI a2), some (vI 0), some (vI 0)]) rfl ?_
  exact e_X11_setOf_5 d zB a1 a2 0 0 M _ _ h
def f_X11_allLove_4 : Nat → Int → Int → AM → Option (Int × AM)
  | 0, _, _, _ => none
  | n + 1, a1, a2, M => if M 5 (Int.toNat 2) ≤ a2 then some (a1, M) else (if 0 ≤ o_add 59 a2 ∧ o_add 59 a2 < 1775 then f_X11_allLove_4 n (o_add a1 (M 5 (Int.toNat (o_add 59 a2)))) (o_add a2 1) M else none)
theorem e_X11_allLove_4 {Y : List (Nat × Nat)} (d : Nat) : ∀ (n : Nat) (a1 : Int) (a2 : Int) (M : AM) (x : Int) (N : AM), f_X11_allLove_4 n a1 a2 M = some (x, N) → Ev Y (d + 0) m_X11_allLove 4 [some (vR 0 21 0), some (vI a1), some (vI a2)] [] M (some (vI x)) N := by
  intro n
  induction n with
  | zero => intro a1 a2 M x N h; cases h
  | succ n ih =>
    intro a1 a2 M x N h
    simp only [f_X11_allLove_4] at h
    refine Z_blk k_X11_allLove 4 (pc' := 10) (lo' := [some (vR 0 21 0), some (vI a1), some (vI a2)]) (st' := [vI 2, vR 5 0 1775, vI a2]) (M1 := M) rfl ?_
    refine Z_one k_X11_allLove rfl (pc' := 11) (lo' := [some (vR 0 21 0), some (vI a1), some (vI a2)]) (st' := [vI (M 5 (Int.toNat 2)), vI a2]) (M1 := M) (rfl) ?_
    refine Z_icmp k_X11_allLove rfl 32 rfl (fun hc => ?_) (fun hc => ?_)
    · replace h := of_pos hc h
      refine Z_blk k_X11_allLove 1 (pc' := 33) (lo' := [some (vR 0 21 0), some (vI a1), some (vI a2)]) (st' := [vI a1]) (M1 := M) rfl ?_
      cases h
      exact Z_ret ⟨Or.inl rfl, _, rfl⟩ rfl
    · replace h := of_neg hc h
      refine Z_blk k_X11_allLove 6 (pc' := 23) (lo' := [some (vR 0 21 0), some (vI a1), some (vI a2)]) (st' := [vI (o_add 59 a2), vR 5 0 1775, vI a1]) (M1 := M) rfl ?_
      obtain ⟨hc1, h⟩ := of_grd h
      refine Z_one k_X11_allLove rfl (pc' := 24) (lo' := [some (vR 0 21 0), some (vI a1), some (vI a2)]) (st' := [vI (M 5 (Int.toNat (o_add 59 a2))), vI a1]) (M1 := M) (if_pos hc1) ?_
      refine Z_blk k_X11_allLove 4 (pc' := 4) (lo' := [some (vR 0 21 0), some (vI (o_add a1 (M 5 (Int.toNat (o_add 59 a2))))), some (vI (o_add a2 1))]) (st' := []) (M1 := M) rfl ?_
      refine Z_mask [true, true, true] (lo0 := [some (vR 0 21 0), some (vI (o_add a1 (M 5 (Int.toNat (o_add 59 a2))))), some (vI (o_add a2 1))]) rfl ?_
      exact ih (o_add a1 (M 5 (Int.toNat (o_add 59 a2)))) (o_add a2 1) M _ _ h
def f_X11_allLove (M : AM) : Option (Int × AM) := f_X11_allLove_4 zB 0 0 M
theorem e_X11_allLove {Y : List (Nat × Nat)} (d : Nat) (M : AM) (x : Int) (N : AM) (h : f_X11_allLove M = some (x, N)) : Ev Y (d + 0) m_X11_allLove 0 [some (vR 0 21 0), none, none] [] M (some (vI x)) N := by
  unfold f_X11_allLove at h
  refine Z_blk k_X11_allLove 4 (pc' := 4) (lo' := [some (vR 0 21 0), some (vI 0), some (vI 0)]) (st' := []) (M1 := M) rfl ?_
  refine Z_mask [true, true, true] (lo0 := [some (vR 0 21 0), some (vI 0), some (vI 0)]) rfl ?_
  exact e_X11_allLove_4 d zB 0 0 M _ _ h
theorem l_11_326 : zhas 7163 (Jvm.Cond.methodLink "BellPullHouseModel" 326 yX11_refuse) = true := by decide +kernel
theorem l_11_329 : zhas 7167 (Jvm.Cond.methodLink "BellPullHouseModel" 329 yX11_setOf) = true := by decide +kernel
theorem l_11_332 : zhas 7171 (Jvm.Cond.methodLink "BellPullHouseModel" 332 yX11_rung) = true := by decide +kernel
theorem l_11_335 : zhas 7192 (Jvm.Cond.methodLink "BellPullHouseModel" 335 yX11_allLove) = true := by decide +kernel
def f_X11_many (a1 : Int) (M : AM) : Option (Int × AM) := zlet (am_upd M 0 1 0) fun M1 => zlet (am_upd M1 0 0 0) fun M2 => (f_X11_isIn a1 0 10 M2).bind fun x3 => if ¬ x3.1 = 0 then (if 7 ≤ a1 then (if ¬ a1 = 7 then (if ¬ a1 = 8 then (if ¬ a1 = 9 then ((f_X11_allLove x3.2).bind fun x4 => some (x4.1, x4.2)) else ((f_X11_rung x3.2).bind fun x5 => some (x5.1, x5.2))) else ((f_X11_setOf 65 (x3.2 5 (Int.toNat 2)) x3.2).bind fun x6 => some (x6.1, x6.2))) else ((f_X11_setOf 37 (x3.2 5 (Int.toNat 1)) x3.2).bind fun x7 => some (x7.1, x7.2))) else (if 0 ≤ a1 ∧ a1 < 1775 then some (x3.2 5 (Int.toNat a1), x3.2) else none)) else ((f_X11_refuse 5 x3.2).bind fun x9 => some (x9.1, x9.2))
theorem e_X11_many {Y : List (Nat × Nat)} (d : Nat) (a1 : Int) (M : AM) (x : Int) (N : AM) (h : f_X11_many a1 M = some (x, N)) : Ev Y (d + 4) m_X11_many 0 [some (vR 0 21 0), some (vI a1)] [] M (some (vI x)) N := by
  unfold f_X11_many at h
  obtain ⟨M1, eM1, h⟩ := of_zlet h
  refine Z_blk k_X11_many 3 (pc' := 5) (lo' := [some (vR 0 21 0), some (vI a1)]) (st' := []) (M1 := M1) (by rw [eM1]; rfl) ?_
  obtain ⟨M2, eM2, h⟩ := of_zlet h
  refine Z_blk k_X11_many 3 (pc' := 10) (lo' := [some (vR 0 21 0), some (vI a1)]) (st' := []) (M1 := M2) (by rw [eM2]; rfl) ?_
  refine Z_blk k_X11_many 4 (pc' := 16) (lo' := [some (vR 0 21 0), some (vI a1)]) (st' := [vL 10, vL 0, vL a1]) (M1 := M2) rfl ?_
  obtain ⟨x3, hx3, h⟩ := Option.bind_eq_some_iff.mp h
  refine Z_callS8 k_X11_many k_X11_isIn rfl rfl (l_11_104) [vL a1, vL 0, vL 10] [] rfl rfl (Nat.le_of_ble_eq_true rfl) (Nat.le_of_ble_eq_true rfl) (e_X11_isIn (d + 3) a1 0 10 M2 _ _ hx3) ?_
  refine Z_if k_X11_many rfl 28 rfl (fun hc => ?_) (fun hc => ?_)
  · replace h := of_pos hc h
    refine Z_blk k_X11_many 2 (pc' := 31) (lo' := [some (vR 0 21 0), some (vI a1)]) (st' := [vI 7, vI a1]) (M1 := x3.2) rfl ?_
    refine Z_icmp k_X11_many rfl 41 rfl (fun hc => ?_) (fun hc => ?_)
    · replace h := of_pos hc h
      refine Z_blk k_X11_many 2 (pc' := 44) (lo' := [some (vR 0 21 0), some (vI a1)]) (st' := [vI 7, vI a1]) (M1 := x3.2) rfl ?_
      refine Z_icmp k_X11_many rfl 60 rfl (fun hc => ?_) (fun hc => ?_)
      · replace h := of_pos hc h
        refine Z_blk k_X11_many 2 (pc' := 63) (lo' := [some (vR 0 21 0), some (vI a1)]) (st' := [vI 8, vI a1]) (M1 := x3.2) rfl ?_
        refine Z_icmp k_X11_many rfl 81 rfl (fun hc => ?_) (fun hc => ?_)
        · replace h := of_pos hc h
          refine Z_blk k_X11_many 2 (pc' := 84) (lo' := [some (vR 0 21 0), some (vI a1)]) (st' := [vI 9, vI a1]) (M1 := x3.2) rfl ?_
          refine Z_icmp k_X11_many rfl 94 rfl (fun hc => ?_) (fun hc => ?_)
          · replace h := of_pos hc h
            refine Z_blk k_X11_many 1 (pc' := 95) (lo' := [some (vR 0 21 0), some (vI a1)]) (st' := [vR 0 21 0]) (M1 := x3.2) rfl ?_
            obtain ⟨x4, hx4, h⟩ := Option.bind_eq_some_iff.mp h
            refine Z_callV8 k_X11_many k_X11_allLove rfl rfl (l_11_335) (ci := 11) rfl [] [] rfl rfl (Nat.le_of_ble_eq_true rfl) (Nat.le_of_ble_eq_true rfl) (e_X11_allLove (d + 3) x3.2 _ _ hx4) ?_
            cases h
            exact Z_ret ⟨Or.inl rfl, _, rfl⟩ rfl
          · replace h := of_neg hc h
            refine Z_blk k_X11_many 1 (pc' := 88) (lo' := [some (vR 0 21 0), some (vI a1)]) (st' := [vR 0 21 0]) (M1 := x3.2) rfl ?_
            obtain ⟨x5, hx5, h⟩ := Option.bind_eq_some_iff.mp h
            refine Z_callV8 k_X11_many k_X11_rung rfl rfl (l_11_332) (ci := 11) rfl [] [] rfl rfl (Nat.le_of_ble_eq_true rfl) (Nat.le_of_ble_eq_true rfl) (e_X11_rung (d + 0) x3.2 _ _ hx5) ?_
            refine Z_blk k_X11_many 1 (pc' := 98) (lo' := [some (vR 0 21 0), some (vI a1)]) (st' := [vI x5.1]) (M1 := x5.2) rfl ?_
            cases h
            exact Z_ret ⟨Or.inl rfl, _, rfl⟩ rfl
        · replace h := of_neg hc h
          refine Z_blk k_X11_many 5 (pc' := 74) (lo' := [some (vR 0 21 0), some (vI a1)]) (st' := [vI 2, vR 5 0 1775, vI 65, vR 0 21 0]) (M1 := x3.2) rfl ?_
          refine Z_one k_X11_many rfl (pc' := 75) (lo' := [some (vR 0 21 0), some (vI a1)]) (st' := [vI (x3.2 5 (Int.toNat 2)), vI 65, vR 0 21 0]) (M1 := x3.2) (rfl) ?_
          obtain ⟨x6, hx6, h⟩ := Option.bind_eq_some_iff.mp h
          refine Z_callV8 k_X11_many k_X11_setOf rfl rfl (l_11_329) (ci := 11) rfl [vI 65, vI (x3.2 5 (Int.toNat 2))] [] rfl rfl (Nat.le_of_ble_eq_true rfl) (Nat.le_of_ble_eq_true rfl) (e_X11_setOf (d + 3) 65 (x3.2 5 (Int.toNat 2)) x3.2 _ _ hx6) ?_
          refine Z_blk k_X11_many 1 (pc' := 98) (lo' := [some (vR 0 21 0), some (vI a1)]) (st' := [vI x6.1]) (M1 := x6.2) rfl ?_
          cases h
          exact Z_ret ⟨Or.inl rfl, _, rfl⟩ rfl
      · replace h := of_neg hc h
        refine Z_blk k_X11_many 5 (pc' := 55) (lo' := [some (vR 0 21 0), some (vI a1)]) (st' := [vI 1, vR 5 0 1775, vI 37, vR 0 21 0]) (M1 := x3.2) rfl ?_
        refine Z_one k_X11_many rfl (pc' := 56) (lo' := [some (vR 0 21 0), some (vI a1)]) (st' := [vI (x3.2 5 (Int.toNat 1)), vI 37, vR 0 21 0]) (M1 := x3.2) (rfl) ?_
        obtain ⟨x7, hx7, h⟩ := Option.bind_eq_some_iff.mp h
        refine Z_callV8 k_X11_many k_X11_setOf rfl rfl (l_11_329) (ci := 11) rfl [vI 37, vI (x3.2 5 (Int.toNat 1))] [] rfl rfl (Nat.le_of_ble_eq_true rfl) (Nat.le_of_ble_eq_true rfl) (e_X11_setOf (d + 3) 37 (x3.2 5 (Int.toNat 1)) x3.2 _ _ hx7) ?_
        cases h
        exact Z_ret ⟨Or.inl rfl, _, rfl⟩ rfl
    · replace h := of_neg hc h
      refine Z_blk k_X11_many 3 (pc' := 39) (lo' := [some (vR 0 21 0), some (vI a1)]) (st' := [vI a1, vR 5 0 1775]) (M1 := x3.2) rfl ?_
      obtain ⟨hc8, h⟩ := of_grd h
      refine Z_one k_X11_many rfl (pc' := 40) (lo' := [some (vR 0 21 0), some (vI a1)]) (st' := [vI (x3.2 5 (Int.toNat a1))]) (M1 := x3.2) (if_pos hc8) ?_
      cases h
      exact Z_ret ⟨Or.inl rfl, _, rfl⟩ rfl
  · replace h := of_neg hc h
    refine Z_blk k_X11_many 2 (pc' := 24) (lo' := [some (vR 0 21 0), some (vI a1)]) (st' := [vI 5, vR 0 21 0]) (M1 := x3.2) rfl ?_
    obtain ⟨x9, hx9, h⟩ := Option.bind_eq_some_iff.mp h
    refine Z_callV8 k_X11_many k_X11_refuse rfl rfl (l_11_326) (ci := 11) rfl [vI 5] [] rfl rfl (Nat.le_of_ble_eq_true rfl) (Nat.le_of_ble_eq_true rfl) (e_X11_refuse (d + 3) 5 x3.2 _ _ hx9) ?_
    cases h
    exact Z_ret ⟨Or.inl rfl, _, rfl⟩ rfl
theorem l_11_338 : zhas 7200 (Jvm.Cond.methodLink "BellPullHouseModel" 338 yX11_isWireAt) = true := by decide +kernel
def f_X11_wire (a1 : Int) (a2 : Int) (M : AM) : Option (Int × AM) := zlet (am_upd M 0 1 0) fun M1 => zlet (am_upd M1 0 0 0) fun M2 => (f_X11_isWireAt a1 M2).bind fun x3 => if ¬ x3.1 = 0 then ((f_X11_isIn a2 0 3 x3.2).bind fun x4 => if x4.1 = 0 then ((f_X11_refuse 5 x4.2).bind fun x5 => some (x5.1, x5.2)) else (if 0 ≤ o_add (o_add 7 (o_mul 10 a2)) a1 ∧ o_add (o_add 7 (o_mul 10 a2)) a1 < 1775 then some (x4.2 5 (Int.toNat (o_add (o_add 7 (o_mul 10 a2)) a1)), x4.2) else none)) else ((f_X11_refuse 2 x3.2).bind fun x7 => some (x7.1, x7.2))
theorem e_X11_wire {Y : List (Nat × Nat)} (d : Nat) (a1 : Int) (a2 : Int) (M : AM) (x : Int) (N : AM) (h : f_X11_wire a1 a2 M = some (x, N)) : Ev Y (d + 2) m_X11_wire 0 [some (vR 0 21 0), some (vI a1), some (vI a2)] [] M (some (vI x)) N := by
  unfold f_X11_wire at h
  obtain ⟨M1, eM1, h⟩ := of_zlet h
  refine Z_blk k_X11_wire 3 (pc' := 5) (lo' := [some (vR 0 21 0), some (vI a1), some (vI a2)]) (st' := []) (M1 := M1) (by rw [eM1]; rfl) ?_
  obtain ⟨M2, eM2, h⟩ := of_zlet h
  refine Z_blk k_X11_wire 3 (pc' := 10) (lo' := [some (vR 0 21 0), some (vI a1), some (vI a2)]) (st' := []) (M1 := M2) (by rw [eM2]; rfl) ?_
  refine Z_blk k_X11_wire 2 (pc' := 12) (lo' := [some (vR 0 21 0), some (vI a1), some (vI a2)]) (st' := [vI a1, vR 0 21 0]) (M1 := M2) rfl ?_
  obtain ⟨x3, hx3, h⟩ := Option.bind_eq_some_iff.mp h
  refine Z_callV8 k_X11_wire k_X11_isWireAt rfl rfl (l_11_338) (ci := 11) rfl [vI a1] [] rfl rfl (Nat.le_of_ble_eq_true rfl) (Nat.le_of_ble_eq_true rfl) (e_X11_isWireAt (d + 0) a1 M2 _ _ hx3) ?_
  refine Z_if k_X11_wire rfl 24 rfl (fun hc => ?_) (fun hc => ?_)
  · replace h := of_pos hc h
    refine Z_blk k_X11_wire 4 (pc' := 30) (lo' := [some (vR 0 21 0), some (vI a1), some (vI a2)]) (st' := [vL 3, vL 0, vL a2]) (M1 := x3.2) rfl ?_
    obtain ⟨x4, hx4, h⟩ := Option.bind_eq_some_iff.mp h
    refine Z_callS8 k_X11_wire k_X11_isIn rfl rfl (l_11_104) [vL a2, vL 0, vL 3] [] rfl rfl (Nat.le_of_ble_eq_true rfl) (Nat.le_of_ble_eq_true rfl) (e_X11_isIn (d + 1) a2 0 3 x3.2 _ _ hx4) ?_
    refine Z_if k_X11_wire rfl 53 rfl (fun hc => ?_) (fun hc => ?_)
    · replace h := of_pos hc h
      refine Z_blk k_X11_wire 2 (pc' := 55) (lo' := [some (vR 0 21 0), some (vI a1), some (vI a2)]) (st' := [vI 5, vR 0 21 0]) (M1 := x4.2) rfl ?_
      obtain ⟨x5, hx5, h⟩ := Option.bind_eq_some_iff.mp h
      refine Z_callV8 k_X11_wire k_X11_refuse rfl rfl (l_11_326) (ci := 11) rfl [vI 5] [] rfl rfl (Nat.le_of_ble_eq_true rfl) (Nat.le_of_ble_eq_true rfl) (e_X11_refuse (d + 1) 5 x4.2 _ _ hx5) ?_
      cases h
      exact Z_ret ⟨Or.inl rfl, _, rfl⟩ rfl
    · replace h := of_neg hc h
      refine Z_blk k_X11_wire 9 (pc' := 49) (lo' := [some (vR 0 21 0), some (vI a1), some (vI a2)]) (st' := [vI (o_add (o_add 7 (o_mul 10 a2)) a1), vR 5 0 1775]) (M1 := x4.2) rfl ?_
      obtain ⟨hc6, h⟩ := of_grd h
      refine Z_one k_X11_wire rfl (pc' := 50) (lo' := [some (vR 0 21 0), some (vI a1), some (vI a2)]) (st' := [vI (x4.2 5 (Int.toNat (o_add (o_add 7 (o_mul 10 a2)) a1)))]) (M1 := x4.2) (if_pos hc6) ?_
      refine Z_blk k_X11_wire 1 (pc' := 58) (lo' := [some (vR 0 21 0), some (vI a1), some (vI a2)]) (st' := [vI (x4.2 5 (Int.toNat (o_add (o_add 7 (o_mul 10 a2)) a1)))]) (M1 := x4.2) rfl ?_
      cases h
      exact Z_ret ⟨Or.inl rfl, _, rfl⟩ rfl
  · replace h := of_neg hc h
    refine Z_blk k_X11_wire 2 (pc' := 20) (lo' := [some (vR 0 21 0), some (vI a1), some (vI a2)]) (st' := [vI 2, vR 0 21 0]) (M1 := x3.2) rfl ?_
    obtain ⟨x7, hx7, h⟩ := Option.bind_eq_some_iff.mp h
    refine Z_callV8 k_X11_wire k_X11_refuse rfl rfl (l_11_326) (ci := 11) rfl [vI 2] [] rfl rfl (Nat.le_of_ble_eq_true rfl) (Nat.le_of_ble_eq_true rfl) (e_X11_refuse (d + 1) 2 x3.2 _ _ hx7) ?_
    cases h
    exact Z_ret ⟨Or.inl rfl, _, rfl⟩ rfl
theorem l_11_341 : zhas 7209 (Jvm.Cond.methodLink "BellPullHouseModel" 341 yX11_isCoupleAt) = true := by decide +kernel
def f_X11_couple (a1 : Int) (a2 : Int) (M : AM) : Option (Int × AM) := zlet (am_upd M 0 1 0) fun M1 => zlet (am_upd M1 0 0 0) fun M2 => (f_X11_isCoupleAt a1 M2).bind fun x3 => if ¬ x3.1 = 0 then ((f_X11_isIn a2 0 6 x3.2).bind fun x4 => if ¬ x4.1 = 0 then (if ¬ a2 = 4 then (if 4 ≤ a2 then (if 0 ≤ o_add (o_add 47 (o_mul 6 (o_sub a2 1))) a1 ∧ o_add (o_add 47 (o_mul 6 (o_sub a2 1))) a1 < 1775 then some (x4.2 5 (Int.toNat (o_add (o_add 47 (o_mul 6 (o_sub a2 1))) a1)), x4.2) else none) else (if 0 ≤ o_add (o_add 47 (o_mul 6 a2)) a1 ∧ o_add (o_add 47 (o_mul 6 a2)) a1 < 1775 then some (x4.2 5 (Int.toNat (o_add (o_add 47 (o_mul 6 a2)) a1)), x4.2) else none)) else ((f_X11_rung x4.2).bind fun x7 => (f_X11_has x7.1 a1 x7.2).bind fun x8 => if x8.1 = 0 then some (0, x8.2) else some (1, x8.2))) else ((f_X11_refuse 5 x4.2).bind fun x9 => some (x9.1, x9.2))) else ((f_X11_refuse 2 x3.2).bind fun x10 => some (x10.1, x10.2))
theorem e_X11_couple {Y : List (Nat × Nat)} (d : Nat) (a1 : Int) (a2 : Int) (M : AM) (x : Int) (N : AM) (h : f_X11_couple a1 a2 M = some (x, N)) : Ev Y (d + 4) m_X11_couple 0 [some (vR 0 21 0), some (vI a1), some (vI a2)] [] M (some (vI x)) N := by
  unfold f_X11_couple at h
  obtain ⟨M1, eM1, h⟩ := of_zlet h
  refine Z_blk k_X11_couple 3 (pc' := 5) (lo' := [some (vR 0 21 0), some (vI a1), some (vI a2)]) (st' := []) (M1 := M1) (by rw [eM1]; rfl) ?_
  obtain ⟨M2, eM2, h⟩ := of_zlet h
  refine Z_blk k_X11_couple 3 (pc' := 10) (lo' := [some (vR 0 21 0), some (vI a1), some (vI a2)]) (st' := []) (M1 := M2) (by rw [eM2]; rfl) ?_
  refine Z_blk k_X11_couple 2 (pc' := 12) (lo' := [some (vR 0 21 0), some (vI a1), some (vI a2)]) (st' := [vI a1, vR 0 21 0]) (M1 := M2) rfl ?_
  obtain ⟨x3, hx3, h⟩ := Option.bind_eq_some_iff.mp h
  refine Z_callV8 k_X11_couple k_X11_isCoupleAt rfl rfl (l_11_341) (ci := 11) rfl [vI a1] [] rfl rfl (Nat.le_of_ble_eq_true rfl) (Nat.le_of_ble_eq_true rfl) (e_X11_isCoupleAt (d + 2) a1 M2 _ _ hx3) ?_
  refine Z_if k_X11_couple rfl 24 rfl (fun hc => ?_) (fun hc => ?_)
  · replace h := of_pos hc h
    refine Z_blk k_X11_couple 4 (pc' := 30) (lo' := [some (vR 0 21 0), some (vI a1), some (vI a2)]) (st' := [vL 6, vL 0, vL a2]) (M1 := x3.2) rfl ?_
    obtain ⟨x4, hx4, h⟩ := Option.bind_eq_some_iff.mp h
    refine Z_callS8 k_X11_couple k_X11_isIn rfl rfl (l_11_104) [vL a2, vL 0, vL 6] [] rfl rfl (Nat.le_of_ble_eq_true rfl) (Nat.le_of_ble_eq_true rfl) (e_X11_isIn (d + 3) a2 0 6 x3.2 _ _ hx4) ?_
    refine Z_if k_X11_couple rfl 42 rfl (fun hc => ?_) (fun hc => ?_)
    · replace h := of_pos hc h
      refine Z_blk k_X11_couple 2 (pc' := 44) (lo' := [some (vR 0 21 0), some (vI a1), some (vI a2)]) (st' := [vI 4, vI a2]) (M1 := x4.2) rfl ?_
      refine Z_icmp k_X11_couple rfl 64 rfl (fun hc => ?_) (fun hc => ?_)
      · replace h := of_pos hc h
        refine Z_blk k_X11_couple 6 (pc' := 74) (lo' := [some (vR 0 21 0), some (vI a1), some (vI a2)]) (st' := [vI 4, vI a2, vI 6, vI 47, vR 5 0 1775]) (M1 := x4.2) rfl ?_
        refine Z_icmp k_X11_couple rfl 81 rfl (fun hc => ?_) (fun hc => ?_)
        · replace h := of_pos hc h
          refine Z_blk k_X11_couple 7 (pc' := 88) (lo' := [some (vR 0 21 0), some (vI a1), some (vI a2)]) (st' := [vI (o_add (o_add 47 (o_mul 6 (o_sub a2 1))) a1), vR 5 0 1775]) (M1 := x4.2) rfl ?_
          obtain ⟨hc5, h⟩ := of_grd h
          refine Z_one k_X11_couple rfl (pc' := 89) (lo' := [some (vR 0 21 0), some (vI a1), some (vI a2)]) (st' := [vI (x4.2 5 (Int.toNat (o_add (o_add 47 (o_mul 6 (o_sub a2 1))) a1)))]) (M1 := x4.2) (if_pos hc5) ?_
          cases h
          exact Z_ret ⟨Or.inl rfl, _, rfl⟩ rfl
        · replace h := of_neg hc h
          refine Z_blk k_X11_couple 6 (pc' := 88) (lo' := [some (vR 0 21 0), some (vI a1), some (vI a2)]) (st' := [vI (o_add (o_add 47 (o_mul 6 a2)) a1), vR 5 0 1775]) (M1 := x4.2) rfl ?_
          obtain ⟨hc6, h⟩ := of_grd h
          refine Z_one k_X11_couple rfl (pc' := 89) (lo' := [some (vR 0 21 0), some (vI a1), some (vI a2)]) (st' := [vI (x4.2 5 (Int.toNat (o_add (o_add 47 (o_mul 6 a2)) a1)))]) (M1 := x4.2) (if_pos hc6) ?_
          cases h
          exact Z_ret ⟨Or.inl rfl, _, rfl⟩ rfl
      · replace h := of_neg hc h
        refine Z_blk k_X11_couple 1 (pc' := 48) (lo' := [some (vR 0 21 0), some (vI a1), some (vI a2)]) (st' := [vR 0 21 0]) (M1 := x4.2) rfl ?_
        obtain ⟨x7, hx7, h⟩ := Option.bind_eq_some_iff.mp h
        refine Z_callV8 k_X11_couple k_X11_rung rfl rfl (l_11_332) (ci := 11) rfl [] [] rfl rfl (Nat.le_of_ble_eq_true rfl) (Nat.le_of_ble_eq_true rfl) (e_X11_rung (d + 0) x4.2 _ _ hx7) ?_
        refine Z_blk k_X11_couple 1 (pc' := 52) (lo' := [some (vR 0 21 0), some (vI a1), some (vI a2)]) (st' := [vI a1, vI x7.1]) (M1 := x7.2) rfl ?_
        obtain ⟨x8, hx8, h⟩ := Option.bind_eq_some_iff.mp h
        refine Z_callS8 k_X11_couple k_X11_has rfl rfl (l_11_108) [vI x7.1, vI a1] [] rfl rfl (Nat.le_of_ble_eq_true rfl) (Nat.le_of_ble_eq_true rfl) (e_X11_has (d + 3) x7.1 a1 x7.2 _ _ hx8) ?_
        refine Z_if k_X11_couple rfl 62 rfl (fun hc => ?_) (fun hc => ?_)
        · replace h := of_pos hc h
          refine Z_blk k_X11_couple 1 (pc' := 63) (lo' := [some (vR 0 21 0), some (vI a1), some (vI a2)]) (st' := [vI 0]) (M1 := x8.2) rfl ?_
          cases h
          exact Z_ret ⟨Or.inl rfl, _, rfl⟩ rfl
        · replace h := of_neg hc h
          refine Z_blk k_X11_couple 2 (pc' := 63) (lo' := [some (vR 0 21 0), some (vI a1), some (vI a2)]) (st' := [vI 1]) (M1 := x8.2) rfl ?_
          cases h
          exact Z_ret ⟨Or.inl rfl, _, rfl⟩ rfl
    · replace h := of_neg hc h
      refine Z_blk k_X11_couple 2 (pc' := 38) (lo' := [some (vR 0 21 0), some (vI a1), some (vI a2)]) (st' := [vI 5, vR 0 21 0]) (M1 := x4.2) rfl ?_
      obtain ⟨x9, hx9, h⟩ := Option.bind_eq_some_iff.mp h
      refine Z_callV8 k_X11_couple k_X11_refuse rfl rfl (l_11_326) (ci := 11) rfl [vI 5] [] rfl rfl (Nat.le_of_ble_eq_true rfl) (Nat.le_of_ble_eq_true rfl) (e_X11_refuse (d + 3) 5 x4.2 _ _ hx9) ?_
      cases h
      exact Z_ret ⟨Or.inl rfl, _, rfl⟩ rfl
  · replace h := of_neg hc h
    refine Z_blk k_X11_couple 2 (pc' := 20) (lo' := [some (vR 0 21 0), some (vI a1), some (vI a2)]) (st' := [vI 2, vR 0 21 0]) (M1 := x3.2) rfl ?_
    obtain ⟨x10, hx10, h⟩ := Option.bind_eq_some_iff.mp h
    refine Z_callV8 k_X11_couple k_X11_refuse rfl rfl (l_11_326) (ci := 11) rfl [vI 2] [] rfl rfl (Nat.le_of_ble_eq_true rfl) (Nat.le_of_ble_eq_true rfl) (e_X11_refuse (d + 3) 2 x3.2 _ _ hx10) ?_
    cases h
    exact Z_ret ⟨Or.inl rfl, _, rfl⟩ rfl
theorem l_11_346 : zhas 7218 (Jvm.Cond.methodLink "BellPullHouseModel" 346 yX11_isTray) = true := by decide +kernel
theorem l_11_349 : zhas 7222 (Jvm.Cond.methodLink "BellPullHouseModel" 349 yX11_write) = true := by decide +kernel
def f_X11_copyLove_62 : Nat → Int → Int → AM → Option (Int × AM)
  | 0, _, _, _ => none
  | n + 1, a1, a2, M => if M 5 (Int.toNat 2) ≤ a2 then some (M 5 (Int.toNat 2), M) else (if 0 ≤ o_add 59 a2 ∧ o_add 59 a2 < 1775 then ((f_X11_write a1 a2 (M 5 (Int.toNat (o_add 59 a2))) M).bind fun x2 => f_X11_copyLove_62 n a1 (o_add a2 1) x2.2) else none)
theorem e_X11_copyLove_62 {Y : List (Nat × Nat)} (d : Nat) : ∀ (n : Nat) (a1 : Int) (a2 : Int) (M : AM) (x : Int) (N : AM), f_X11_copyLove_62 n a1 a2 M = some (x, N) → Ev Y (d + 3) m_X11_copyLove 62 [some (vR 0 21 0), some (vI a1), some (vI a2)] [] M (some (vI x)) N := by
  intro n
  induction n with
  | zero => intro a1 a2 M x N h; cases h
  | succ n ih =>
    intro a1 a2 M x N h
    simp only [f_X11_copyLove_62] at h
    refine Z_blk k_X11_copyLove 4 (pc' := 68) (lo' := [some (vR 0 21 0), some (vI a1), some (vI a2)]) (st' := [vI 2, vR 5 0 1775, vI a2]) (M1 := M) rfl ?_
    refine Z_one k_X11_copyLove rfl (pc' := 69) (lo' := [some (vR 0 21 0), some (vI a1), some (vI a2)]) (st' := [vI (M 5 (Int.toNat 2)), vI a2]) (M1 := M) (rfl) ?_
    refine Z_icmp k_X11_copyLove rfl 95 rfl (fun hc => ?_) (fun hc => ?_)
    · replace h := of_pos hc h
      refine Z_blk k_X11_copyLove 3 (pc' := 100) (lo' := [some (vR 0 21 0), some (vI a1), some (vI a2)]) (st' := [vI 2, vR 5 0 1775]) (M1 := M) rfl ?_
      refine Z_one k_X11_copyLove rfl (pc' := 101) (lo' := [some (vR 0 21 0), some (vI a1), some (vI a2)]) (st' := [vI (M 5 (Int.toNat 2))]) (M1 := M) (rfl) ?_
      cases h
      exact Z_ret ⟨Or.inl rfl, _, rfl⟩ rfl
    · replace h := of_neg hc h
      refine Z_blk k_X11_copyLove 8 (pc' := 83) (lo' := [some (vR 0 21 0), some (vI a1), some (vI a2)]) (st' := [vI (o_add 59 a2), vR 5 0 1775, vI a2, vI a1, vR 0 21 0]) (M1 := M) rfl ?_
      obtain ⟨hc1, h⟩ := of_grd h
      refine Z_one k_X11_copyLove rfl (pc' := 84) (lo' := [some (vR 0 21 0), some (vI a1), some (vI a2)]) (st' := [vI (M 5 (Int.toNat (o_add 59 a2))), vI a2, vI a1, vR 0 21 0]) (M1 := M) (if_pos hc1) ?_
      refine Z_blk k_X11_copyLove 1 (pc' := 85) (lo' := [some (vR 0 21 0), some (vI a1), some (vI a2)]) (st' := [vL (M 5 (Int.toNat (o_add 59 a2))), vI a2, vI a1, vR 0 21 0]) (M1 := M) rfl ?_
      obtain ⟨x2, hx2, h⟩ := Option.bind_eq_some_iff.mp h
      refine Z_callV8 k_X11_copyLove k_X11_write rfl rfl (l_11_349) (ci := 11) rfl [vI a1, vI a2, vL (M 5 (Int.toNat (o_add 59 a2)))] [] rfl rfl (Nat.le_of_ble_eq_true rfl) (Nat.le_of_ble_eq_true rfl) (e_X11_write (d + 0) a1 a2 (M 5 (Int.toNat (o_add 59 a2))) M _ _ hx2) ?_
      refine Z_blk k_X11_copyLove 3 (pc' := 62) (lo' := [some (vR 0 21 0), some (vI a1), some (vI (o_add a2 1))]) (st' := []) (M1 := x2.2) rfl ?_
      refine Z_mask [true, true, true] (lo0 := [some (vR 0 21 0), some (vI a1), some (vI (o_add a2 1))]) rfl ?_
      exact ih a1 (o_add a2 1) x2.2 _ _ h
def f_X11_copyLove (a1 : Int) (M : AM) : Option (Int × AM) := zlet (am_upd M 0 1 0) fun M1 => zlet (am_upd M1 0 0 0) fun M2 => (f_X11_isTray a1 M2).bind fun x3 => if ¬ x3.1 = 0 then (if 0 ≤ a1 ∧ a1 < 4 then (if 0 ≤ x3.2 2 (Int.toNat a1) then (if x3.2 5 (Int.toNat 2) ≤ x3.2 2 (Int.toNat a1) then f_X11_copyLove_62 zB a1 0 x3.2 else ((f_X11_refuse 4 x3.2).bind fun x5 => some (x5.1, x5.2))) else ((f_X11_refuse 3 x3.2).bind fun x6 => some (x6.1, x6.2))) else none) else ((f_X11_refuse 1 x3.2).bind fun x7 => some (x7.1, x7.2))
theorem e_X11_copyLove {Y : List (Nat × Nat)} (d : Nat) (a1 : Int) (M : AM) (x : Int) (N : AM) (h : f_X11_copyLove a1 M = some (x, N)) : Ev Y (d + 3) m_X11_copyLove 0 [some (vR 0 21 0), some (vI a1), none] [] M (some (vI x)) N := by
  unfold f_X11_copyLove at h
  obtain ⟨M1, eM1, h⟩ := of_zlet h
  refine Z_blk k_X11_copyLove 3 (pc' := 5) (lo' := [some (vR 0 21 0), some (vI a1), none]) (st' := []) (M1 := M1) (by rw [eM1]; rfl) ?_
  obtain ⟨M2, eM2, h⟩ := of_zlet h
  refine Z_blk k_X11_copyLove 3 (pc' := 10) (lo' := [some (vR 0 21 0), some (vI a1), none]) (st' := []) (M1 := M2) (by rw [eM2]; rfl) ?_
  refine Z_blk k_X11_copyLove 2 (pc' := 12) (lo' := [some (vR 0 21 0), some (vI a1), none]) (st' := [vI a1, vR 0 21 0]) (M1 := M2) rfl ?_
  obtain ⟨x3, hx3, h⟩ := Option.bind_eq_some_iff.mp h
  refine Z_callV8 k_X11_copyLove k_X11_isTray rfl rfl (l_11_346) (ci := 11) rfl [vI a1] [] rfl rfl (Nat.le_of_ble_eq_true rfl) (Nat.le_of_ble_eq_true rfl) (e_X11_isTray (d + 1) a1 M2 _ _ hx3) ?_
  refine Z_if k_X11_copyLove rfl 24 rfl (fun hc => ?_) (fun hc => ?_)
  · replace h := of_pos hc h
    refine Z_blk k_X11_copyLove 3 (pc' := 29) (lo' := [some (vR 0 21 0), some (vI a1), none]) (st' := [vI a1, vR 2 0 4]) (M1 := x3.2) rfl ?_
    obtain ⟨hc4, h⟩ := of_grd h
    refine Z_one k_X11_copyLove rfl (pc' := 30) (lo' := [some (vR 0 21 0), some (vI a1), none]) (st' := [vI (x3.2 2 (Int.toNat a1))]) (M1 := x3.2) (if_pos hc4) ?_
    refine Z_if k_X11_copyLove rfl 39 rfl (fun hc => ?_) (fun hc => ?_)
    · replace h := of_pos hc h
      refine Z_blk k_X11_copyLove 3 (pc' := 44) (lo' := [some (vR 0 21 0), some (vI a1), none]) (st' := [vI a1, vR 2 0 4]) (M1 := x3.2) rfl ?_
      refine Z_one k_X11_copyLove rfl (pc' := 45) (lo' := [some (vR 0 21 0), some (vI a1), none]) (st' := [vI (x3.2 2 (Int.toNat a1))]) (M1 := x3.2) (if_pos hc4) ?_
      refine Z_blk k_X11_copyLove 3 (pc' := 50) (lo' := [some (vR 0 21 0), some (vI a1), none]) (st' := [vI 2, vR 5 0 1775, vI (x3.2 2 (Int.toNat a1))]) (M1 := x3.2) rfl ?_
      refine Z_one k_X11_copyLove rfl (pc' := 51) (lo' := [some (vR 0 21 0), some (vI a1), none]) (st' := [vI (x3.2 5 (Int.toNat 2)), vI (x3.2 2 (Int.toNat a1))]) (M1 := x3.2) (rfl) ?_
      refine Z_icmp k_X11_copyLove rfl 60 rfl (fun hc => ?_) (fun hc => ?_)
      · replace h := of_pos hc h
        refine Z_blk k_X11_copyLove 2 (pc' := 62) (lo' := [some (vR 0 21 0), some (vI a1), some (vI 0)]) (st' := []) (M1 := x3.2) rfl ?_
        refine Z_mask [true, true, true] (lo0 := [some (vR 0 21 0), some (vI a1), some (vI 0)]) rfl ?_
        exact e_X11_copyLove_62 d zB a1 0 x3.2 _ _ h
      · replace h := of_neg hc h
        refine Z_blk k_X11_copyLove 2 (pc' := 56) (lo' := [some (vR 0 21 0), some (vI a1), none]) (st' := [vI 4, vR 0 21 0]) (M1 := x3.2) rfl ?_
        obtain ⟨x5, hx5, h⟩ := Option.bind_eq_some_iff.mp h
        refine Z_callV8 k_X11_copyLove k_X11_refuse rfl rfl (l_11_326) (ci := 11) rfl [vI 4] [] rfl rfl (Nat.le_of_ble_eq_true rfl) (Nat.le_of_ble_eq_true rfl) (e_X11_refuse (d + 2) 4 x3.2 _ _ hx5) ?_
        cases h
        exact Z_ret ⟨Or.inl rfl, _, rfl⟩ rfl
    · replace h := of_neg hc h
      refine Z_blk k_X11_copyLove 2 (pc' := 35) (lo' := [some (vR 0 21 0), some (vI a1), none]) (st' := [vI 3, vR 0 21 0]) (M1 := x3.2) rfl ?_
      obtain ⟨x6, hx6, h⟩ := Option.bind_eq_some_iff.mp h
      refine Z_callV8 k_X11_copyLove k_X11_refuse rfl rfl (l_11_326) (ci := 11) rfl [vI 3] [] rfl rfl (Nat.le_of_ble_eq_true rfl) (Nat.le_of_ble_eq_true rfl) (e_X11_refuse (d + 2) 3 x3.2 _ _ hx6) ?_
      cases h
      exact Z_ret ⟨Or.inl rfl, _, rfl⟩ rfl
  · replace h := of_neg hc h
    refine Z_blk k_X11_copyLove 2 (pc' := 20) (lo' := [some (vR 0 21 0), some (vI a1), none]) (st' := [vI 1, vR 0 21 0]) (M1 := x3.2) rfl ?_
    obtain ⟨x7, hx7, h⟩ := Option.bind_eq_some_iff.mp h
    refine Z_callV8 k_X11_copyLove k_X11_refuse rfl rfl (l_11_326) (ci := 11) rfl [vI 1] [] rfl rfl (Nat.le_of_ble_eq_true rfl) (Nat.le_of_ble_eq_true rfl) (e_X11_refuse (d + 2) 1 x3.2 _ _ hx7) ?_
    cases h
    exact Z_ret ⟨Or.inl rfl, _, rfl⟩ rfl
def f_X11_answerOf_107 (k_4 : Int → Int → Int → AM → Option (Int × AM)) (a1 : Int) (a2 : Int) (a3 : Int) (s0 : Int) (M : AM) : Option (Int × AM) := if 0 < s0 then k_4 a1 a3 (o_add a3 1) M else (if ¬ s0 = 0 then k_4 a1 a2 (o_add a3 1) M else (if ¬ a3 = a1 then k_4 a1 a2 (o_add a3 1) M else k_4 a1 a3 (o_add a3 1) M))
theorem e_X11_answerOf_107 {Y : List (Nat × Nat)} (d : Nat) (k_4 : Int → Int → Int → AM → Option (Int × AM)) (hk_4 : ∀ (a1 : Int) (a2 : Int) (a3 : Int) (M : AM) (x : Int) (N : AM), k_4 a1 a2 a3 M = some (x, N) → Ev Y (d + 2) m_X11_answerOf 4 [some (vR 0 21 0), some (vI a1), some (vI a2), some (vI a3), none] [] M (some (vI x)) N) (a1 : Int) (a2 : Int) (a3 : Int) (s0 : Int) (M : AM) (x : Int) (N : AM) (h : f_X11_answerOf_107 k_4 a1 a2 a3 s0 M = some (x, N)) : Ev Y (d + 2) m_X11_answerOf 107 [some (vR 0 21 0), some (vI a1), some (vI a2), some (vI a3), none] [vI s0] M (some (vI x)) N := by
  unfold f_X11_answerOf_107 at h
  refine Z_blk k_X11_answerOf 2 (pc' := 111) (lo' := [some (vR 0 21 0), some (vI a1), some (vI a2), some (vI a3), some (vI s0)]) (st' := [vI s0]) (M1 := M) rfl ?_
  refine Z_if k_X11_answerOf rfl 124 rfl (fun hc => ?_) (fun hc => ?_)
  · replace h := of_pos hc h
    refine Z_blk k_X11_answerOf 4 (pc' := 4) (lo' := [some (vR 0 21 0), some (vI a1), some (vI a3), some (vI (o_add a3 1)), some (vI s0)]) (st' := []) (M1 := M) rfl ?_
    refine Z_mask [true, true, true, true, false] (lo0 := [some (vR 0 21 0), some (vI a1), some (vI a3), some (vI (o_add a3 1)), none]) rfl ?_
    exact hk_4 a1 a3 (o_add a3 1) M _ _ h
  · replace h := of_neg hc h
    refine Z_blk k_X11_answerOf 1 (pc' := 116) (lo' := [some (vR 0 21 0), some (vI a1), some (vI a2), some (vI a3), some (vI s0)]) (st' := [vI s0]) (M1 := M) rfl ?_
    refine Z_if k_X11_answerOf rfl 126 rfl (fun hc => ?_) (fun hc => ?_)
    · replace h := of_pos hc h
      refine Z_blk k_X11_answerOf 2 (pc' := 4) (lo' := [some (vR 0 21 0), some (vI a1), some (vI a2), some (vI (o_add a3 1)), some (vI s0)]) (st' := []) (M1 := M) rfl ?_
      refine Z_mask [true, true, true, true, false] (lo0 := [some (vR 0 21 0), some (vI a1), some (vI a2), some (vI (o_add a3 1)), none]) rfl ?_
      exact hk_4 a1 a2 (o_add a3 1) M _ _ h
    · replace h := of_neg hc h
      refine Z_blk k_X11_answerOf 2 (pc' := 121) (lo' := [some (vR 0 21 0), some (vI a1), some (vI a2), some (vI a3), some (vI s0)]) (st' := [vI a1, vI a3]) (M1 := M) rfl ?_
      refine Z_icmp k_X11_answerOf rfl 126 rfl (fun hc => ?_) (fun hc => ?_)
      · replace h := of_pos hc h
        refine Z_blk k_X11_answerOf 2 (pc' := 4) (lo' := [some (vR 0 21 0), some (vI a1), some (vI a2), some (vI (o_add a3 1)), some (vI s0)]) (st' := []) (M1 := M) rfl ?_
        refine Z_mask [true, true, true, true, false] (lo0 := [some (vR 0 21 0), some (vI a1), some (vI a2), some (vI (o_add a3 1)), none]) rfl ?_
        exact hk_4 a1 a2 (o_add a3 1) M _ _ h
      · replace h := of_neg hc h
        refine Z_blk k_X11_answerOf 4 (pc' := 4) (lo' := [some (vR 0 21 0), some (vI a1), some (vI a3), some (vI (o_add a3 1)), some (vI s0)]) (st' := []) (M1 := M) rfl ?_
        refine Z_mask [true, true, true, true, false] (lo0 := [some (vR 0 21 0), some (vI a1), some (vI a3), some (vI (o_add a3 1)), none]) rfl ?_
        exact hk_4 a1 a3 (o_add a3 1) M _ _ h
def f_X11_answerOf_4 : Nat → Int → Int → Int → AM → Option (Int × AM)
  | 0, _, _, _, _ => none
  | n + 1, a1, a2, a3, M => if M 5 (Int.toNat 2) ≤ a3 then some (a2, M) else (if 0 ≤ o_add 65 a3 ∧ o_add 65 a3 < 1775 then (if M 5 (Int.toNat (o_add 65 a3)) = 0 then f_X11_answerOf_4 n a1 a2 (o_add a3 1) M else (if 0 ≤ o_add 47 a3 ∧ o_add 47 a3 < 1775 then (if 0 ≤ o_add 53 a1 ∧ o_add 53 a1 < 1775 then ((f_X11_isHeard (M 5 (Int.toNat (o_add 47 a3))) (M 5 (Int.toNat (o_add 53 a1))) M).bind fun x4 => if ¬ x4.1 = 0 then (if 0 ≤ a2 then (if 0 ≤ o_add 47 a2 ∧ o_add 47 a2 < 1775 then ((f_X11_farOf (x4.2 5 (Int.toNat (o_add 47 a2))) (x4.2 5 (Int.toNat (o_add 53 a1))) x4.2).bind fun x6 => (f_X11_farOf (x6.2 5 (Int.toNat (o_add 47 a3))) (x6.2 5 (Int.toNat (o_add 53 a1))) x6.2).bind fun x7 => f_X11_answerOf_107 (f_X11_answerOf_4 n) a1 a2 a3 (o_sub x6.1 x7.1) x7.2) else none) else f_X11_answerOf_107 (f_X11_answerOf_4 n) a1 a2 a3 1 x4.2) else f_X11_answerOf_4 n a1 a2 (o_add a3 1) x4.2) else none) else none)) else none)
theorem e_X11_answerOf_4 {Y : List (Nat × Nat)} (d : Nat) : ∀ (n : Nat) (a1 : Int) (a2 : Int) (a3 : Int) (M : AM) (x : Int) (N : AM), f_X11_answerOf_4 n a1 a2 a3 M = some (x, N) → Ev Y (d + 2) m_X11_answerOf 4 [some (vR 0 21 0), some (vI a1), some (vI a2), some (vI a3), none] [] M (some (vI x)) N := by
  intro n
  induction n with
  | zero => intro a1 a2 a3 M x N h; cases h
  | succ n ih =>
    intro a1 a2 a3 M x N h
    simp only [f_X11_answerOf_4] at h
    refine Z_blk k_X11_answerOf 4 (pc' := 10) (lo' := [some (vR 0 21 0), some (vI a1), some (vI a2), some (vI a3), none]) (st' := [vI 2, vR 5 0 1775, vI a3]) (M1 := M) rfl ?_
    refine Z_one k_X11_answerOf rfl (pc' := 11) (lo' := [some (vR 0 21 0), some (vI a1), some (vI a2), some (vI a3), none]) (st' := [vI (M 5 (Int.toNat 2)), vI a3]) (M1 := M) (rfl) ?_
    refine Z_icmp k_X11_answerOf rfl 132 rfl (fun hc => ?_) (fun hc => ?_)
    · replace h := of_pos hc h
      refine Z_blk k_X11_answerOf 1 (pc' := 133) (lo' := [some (vR 0 21 0), some (vI a1), some (vI a2), some (vI a3), none]) (st' := [vI a2]) (M1 := M) rfl ?_
      cases h
      exact Z_ret ⟨Or.inl rfl, _, rfl⟩ rfl
    · replace h := of_neg hc h
      refine Z_blk k_X11_answerOf 5 (pc' := 22) (lo' := [some (vR 0 21 0), some (vI a1), some (vI a2), some (vI a3), none]) (st' := [vI (o_add 65 a3), vR 5 0 1775]) (M1 := M) rfl ?_
      obtain ⟨hc1, h⟩ := of_grd h
      refine Z_one k_X11_answerOf rfl (pc' := 23) (lo' := [some (vR 0 21 0), some (vI a1), some (vI a2), some (vI a3), none]) (st' := [vI (M 5 (Int.toNat (o_add 65 a3)))]) (M1 := M) (if_pos hc1) ?_
      refine Z_if k_X11_answerOf rfl 126 rfl (fun hc => ?_) (fun hc => ?_)
      · replace h := of_pos hc h
        refine Z_blk k_X11_answerOf 2 (pc' := 4) (lo' := [some (vR 0 21 0), some (vI a1), some (vI a2), some (vI (o_add a3 1)), none]) (st' := []) (M1 := M) rfl ?_
        refine Z_mask [true, true, true, true, false] (lo0 := [some (vR 0 21 0), some (vI a1), some (vI a2), some (vI (o_add a3 1)), none]) rfl ?_
        exact ih a1 a2 (o_add a3 1) M _ _ h
      · replace h := of_neg hc h
        refine Z_blk k_X11_answerOf 6 (pc' := 35) (lo' := [some (vR 0 21 0), some (vI a1), some (vI a2), some (vI a3), none]) (st' := [vI (o_add 47 a3), vR 5 0 1775, vR 0 21 0]) (M1 := M) rfl ?_
        obtain ⟨hc2, h⟩ := of_grd h
        refine Z_one k_X11_answerOf rfl (pc' := 36) (lo' := [some (vR 0 21 0), some (vI a1), some (vI a2), some (vI a3), none]) (st' := [vI (M 5 (Int.toNat (o_add 47 a3))), vR 0 21 0]) (M1 := M) (if_pos hc2) ?_
        refine Z_blk k_X11_answerOf 5 (pc' := 44) (lo' := [some (vR 0 21 0), some (vI a1), some (vI a2), some (vI a3), none]) (st' := [vI (o_add 53 a1), vR 5 0 1775, vI (M 5 (Int.toNat (o_add 47 a3))), vR 0 21 0]) (M1 := M) rfl ?_
        obtain ⟨hc3, h⟩ := of_grd h
        refine Z_one k_X11_answerOf rfl (pc' := 45) (lo' := [some (vR 0 21 0), some (vI a1), some (vI a2), some (vI a3), none]) (st' := [vI (M 5 (Int.toNat (o_add 53 a1))), vI (M 5 (Int.toNat (o_add 47 a3))), vR 0 21 0]) (M1 := M) (if_pos hc3) ?_
        obtain ⟨x4, hx4, h⟩ := Option.bind_eq_some_iff.mp h
        refine Z_callV8 k_X11_answerOf k_X11_isHeard rfl rfl (l_11_315) (ci := 11) rfl [vI (M 5 (Int.toNat (o_add 47 a3))), vI (M 5 (Int.toNat (o_add 53 a1)))] [] rfl rfl (Nat.le_of_ble_eq_true rfl) (Nat.le_of_ble_eq_true rfl) (e_X11_isHeard (d + 0) (M 5 (Int.toNat (o_add 47 a3))) (M 5 (Int.toNat (o_add 53 a1))) M _ _ hx4) ?_
        refine Z_if k_X11_answerOf rfl 54 rfl (fun hc => ?_) (fun hc => ?_)
        · replace h := of_pos hc h
          refine Z_blk k_X11_answerOf 1 (pc' := 55) (lo' := [some (vR 0 21 0), some (vI a1), some (vI a2), some (vI a3), none]) (st' := [vI a2]) (M1 := x4.2) rfl ?_
          refine Z_if k_X11_answerOf rfl 62 rfl (fun hc => ?_) (fun hc => ?_)
          · replace h := of_pos hc h
            refine Z_blk k_X11_answerOf 6 (pc' := 71) (lo' := [some (vR 0 21 0), some (vI a1), some (vI a2), some (vI a3), none]) (st' := [vI (o_add 47 a2), vR 5 0 1775, vR 0 21 0]) (M1 := x4.2) rfl ?_
            obtain ⟨hc5, h⟩ := of_grd h
            refine Z_one k_X11_answerOf rfl (pc' := 72) (lo' := [some (vR 0 21 0), some (vI a1), some (vI a2), some (vI a3), none]) (st' := [vI (x4.2 5 (Int.toNat (o_add 47 a2))), vR 0 21 0]) (M1 := x4.2) (if_pos hc5) ?_
            refine Z_blk k_X11_answerOf 5 (pc' := 80) (lo' := [some (vR 0 21 0), some (vI a1), some (vI a2), some (vI a3), none]) (st' := [vI (o_add 53 a1), vR 5 0 1775, vI (x4.2 5 (Int.toNat (o_add 47 a2))), vR 0 21 0]) (M1 := x4.2) rfl ?_
            refine Z_one k_X11_answerOf rfl (pc' := 81) (lo' := [some (vR 0 21 0), some (vI a1), some (vI a2), some (vI a3), none]) (st' := [vI (x4.2 5 (Int.toNat (o_add 53 a1))), vI (x4.2 5 (Int.toNat (o_add 47 a2))), vR 0 21 0]) (M1 := x4.2) (if_pos hc3) ?_
            obtain ⟨x6, hx6, h⟩ := Option.bind_eq_some_iff.mp h
            refine Z_callV8 k_X11_answerOf k_X11_farOf rfl rfl (l_11_312) (ci := 11) rfl [vI (x4.2 5 (Int.toNat (o_add 47 a2))), vI (x4.2 5 (Int.toNat (o_add 53 a1)))] [] rfl rfl (Nat.le_of_ble_eq_true rfl) (Nat.le_of_ble_eq_true rfl) (e_X11_farOf (d + 1) (x4.2 5 (Int.toNat (o_add 47 a2))) (x4.2 5 (Int.toNat (o_add 53 a1))) x4.2 _ _ hx6) ?_
            refine Z_blk k_X11_answerOf 6 (pc' := 93) (lo' := [some (vR 0 21 0), some (vI a1), some (vI a2), some (vI a3), none]) (st' := [vI (o_add 47 a3), vR 5 0 1775, vR 0 21 0, vI x6.1]) (M1 := x6.2) rfl ?_
            refine Z_one k_X11_answerOf rfl (pc' := 94) (lo' := [some (vR 0 21 0), some (vI a1), some (vI a2), some (vI a3), none]) (st' := [vI (x6.2 5 (Int.toNat (o_add 47 a3))), vR 0 21 0, vI x6.1]) (M1 := x6.2) (if_pos hc2) ?_
            refine Z_blk k_X11_answerOf 5 (pc' := 102) (lo' := [some (vR 0 21 0), some (vI a1), some (vI a2), some (vI a3), none]) (st' := [vI (o_add 53 a1), vR 5 0 1775, vI (x6.2 5 (Int.toNat (o_add 47 a3))), vR 0 21 0, vI x6.1]) (M1 := x6.2) rfl ?_
            refine Z_one k_X11_answerOf rfl (pc' := 103) (lo' := [some (vR 0 21 0), some (vI a1), some (vI a2), some (vI a3), none]) (st' := [vI (x6.2 5 (Int.toNat (o_add 53 a1))), vI (x6.2 5 (Int.toNat (o_add 47 a3))), vR 0 21 0, vI x6.1]) (M1 := x6.2) (if_pos hc3) ?_
            obtain ⟨x7, hx7, h⟩ := Option.bind_eq_some_iff.mp h
            refine Z_callV8 k_X11_answerOf k_X11_farOf rfl rfl (l_11_312) (ci := 11) rfl [vI (x6.2 5 (Int.toNat (o_add 47 a3))), vI (x6.2 5 (Int.toNat (o_add 53 a1)))] [vI x6.1] rfl rfl (Nat.le_of_ble_eq_true rfl) (Nat.le_of_ble_eq_true rfl) (e_X11_farOf (d + 1) (x6.2 5 (Int.toNat (o_add 47 a3))) (x6.2 5 (Int.toNat (o_add 53 a1))) x6.2 _ _ hx7) ?_
            refine Z_blk k_X11_answerOf 1 (pc' := 107) (lo' := [some (vR 0 21 0), some (vI a1), some (vI a2), some (vI a3), none]) (st' := [vI (o_sub x6.1 x7.1)]) (M1 := x7.2) rfl ?_
            refine Z_mask [true, true, true, true, false] (lo0 := [some (vR 0 21 0), some (vI a1), some (vI a2), some (vI a3), none]) rfl ?_
            exact e_X11_answerOf_107 d (f_X11_answerOf_4 n) ih a1 a2 a3 (o_sub x6.1 x7.1) x7.2 _ _ h
          · replace h := of_neg hc h
            refine Z_blk k_X11_answerOf 2 (pc' := 107) (lo' := [some (vR 0 21 0), some (vI a1), some (vI a2), some (vI a3), none]) (st' := [vI 1]) (M1 := x4.2) rfl ?_
            refine Z_mask [true, true, true, true, false] (lo0 := [some (vR 0 21 0), some (vI a1), some (vI a2), some (vI a3), none]) rfl ?_
            exact e_X11_answerOf_107 d (f_X11_answerOf_4 n) ih a1 a2 a3 1 x4.2 _ _ h
        · replace h := of_neg hc h
          refine Z_blk k_X11_answerOf 3 (pc' := 4) (lo' := [some (vR 0 21 0), some (vI a1), some (vI a2), some (vI (o_add a3 1)), none]) (st' := []) (M1 := x4.2) rfl ?_
          refine Z_mask [true, true, true, true, false] (lo0 := [some (vR 0 21 0), some (vI a1), some (vI a2), some (vI (o_add a3 1)), none]) rfl ?_
          exact ih a1 a2 (o_add a3 1) x4.2 _ _ h
def f_X11_answerOf (a1 : Int) (M : AM) : Option (Int × AM) := f_X11_answerOf_4 zB a1 (-1) 0 M
theorem e_X11_answerOf {Y : List (Nat × Nat)} (d : Nat) (a1 : Int) (M : AM) (x : Int) (N : AM) (h : f_X11_answerOf a1 M = some (x, N)) : Ev Y (d + 2) m_X11_answerOf 0 [some (vR 0 21 0), some (vI a1), none, none, none] [] M (some (vI x)) N := by
  unfold f_X11_answerOf at h
  refine Z_blk k_X11_answerOf 4 (pc' := 4) (lo' := [some (vR 0 21 0), some (vI a1), some (vI (-1)), some (vI 0), none]) (st' := []) (M1 := M) rfl ?_
  refine Z_mask [true, true, true, true, false] (lo0 := [some (vR 0 21 0), some (vI a1), some (vI (-1)), some (vI 0), none]) rfl ?_
  exact e_X11_answerOf_4 d zB a1 (-1) 0 M _ _ h
def f_X11_loves_19 (a1 : Int) (a2 : Int) (s0 : Int) (M : AM) : Option (AM) := if 0 ≤ o_add 59 a1 ∧ o_add 59 a1 < 1775 then (zlet (am_upd M 5 (Int.toNat (o_add 59 a1)) (o_max 0 (o_min 9 (o_add (M 5 (Int.toNat (o_add 59 a1))) s0)))) fun M2 => if ¬ a2 = a1 then (if a2 < 0 then some M2 else (if 0 ≤ o_add 77 a1 ∧ o_add 77 a1 < 1775 then (zlet (am_upd M2 5 (Int.toNat (o_add 77 a1)) (o_add (M2 5 (Int.toNat (o_add 77 a1))) 1)) fun M4 => some M4) else none)) else (if 0 ≤ o_add 71 a1 ∧ o_add 71 a1 < 1775 then (zlet (am_upd M2 5 (Int.toNat (o_add 71 a1)) (o_add (M2 5 (Int.toNat (o_add 71 a1))) 1)) fun M6 => some M6) else none)) else none
theorem e_X11_loves_19 {Y : List (Nat × Nat)} (d : Nat) (a1 : Int) (a2 : Int) (s0 : Int) (M : AM) (N : AM) (h : f_X11_loves_19 a1 a2 s0 M = some N) : Ev Y (d + 0) m_X11_loves 19 [some (vR 0 21 0), some (vI a1), some (vI a2), none] [vI s0] M none N := by
  unfold f_X11_loves_19 at h
  refine Z_blk k_X11_loves 13 (pc' := 39) (lo' := [some (vR 0 21 0), some (vI a1), some (vI a2), some (vI s0)]) (st' := [vI (o_add 59 a1), vR 5 0 1775, vI 9, vI 0, vI (o_add 59 a1), vR 5 0 1775]) (M1 := M) rfl ?_
  obtain ⟨hc1, h⟩ := of_grd h
  refine Z_one k_X11_loves rfl (pc' := 40) (lo' := [some (vR 0 21 0), some (vI a1), some (vI a2), some (vI s0)]) (st' := [vI (M 5 (Int.toNat (o_add 59 a1))), vI 9, vI 0, vI (o_add 59 a1), vR 5 0 1775]) (M1 := M) (if_pos hc1) ?_
  refine Z_blk k_X11_loves 4 (pc' := 48) (lo' := [some (vR 0 21 0), some (vI a1), some (vI a2), some (vI s0)]) (st' := [vI (o_max 0 (o_min 9 (o_add (M 5 (Int.toNat (o_add 59 a1))) s0))), vI (o_add 59 a1), vR 5 0 1775]) (M1 := M) rfl ?_
  obtain ⟨M2, eM2, h⟩ := of_zlet h
  refine Z_one k_X11_loves rfl (pc' := 49) (lo' := [some (vR 0 21 0), some (vI a1), some (vI a2), some (vI s0)]) (st' := []) (M1 := M2) (by rw [eM2]; exact if_pos hc1) ?_
  refine Z_blk k_X11_loves 2 (pc' := 51) (lo' := [some (vR 0 21 0), some (vI a1), some (vI a2), some (vI s0)]) (st' := [vI a1, vI a2]) (M1 := M2) rfl ?_
  refine Z_icmp k_X11_loves rfl 70 rfl (fun hc => ?_) (fun hc => ?_)
  · replace h := of_pos hc h
    refine Z_blk k_X11_loves 1 (pc' := 71) (lo' := [some (vR 0 21 0), some (vI a1), some (vI a2), some (vI s0)]) (st' := [vI a2]) (M1 := M2) rfl ?_
    refine Z_if k_X11_loves rfl 87 rfl (fun hc => ?_) (fun hc => ?_)
    · replace h := of_pos hc h
      cases h
      exact Z_ret ⟨rfl, _, rfl⟩ rfl
    · replace h := of_neg hc h
      refine Z_blk k_X11_loves 6 (pc' := 83) (lo' := [some (vR 0 21 0), some (vI a1), some (vI a2), some (vI s0)]) (st' := [vI (o_add 77 a1), vR 5 0 1775, vI (o_add 77 a1), vR 5 0 1775]) (M1 := M2) rfl ?_
      obtain ⟨hc3, h⟩ := of_grd h
      refine Z_one k_X11_loves rfl (pc' := 84) (lo' := [some (vR 0 21 0), some (vI a1), some (vI a2), some (vI s0)]) (st' := [vI (M2 5 (Int.toNat (o_add 77 a1))), vI (o_add 77 a1), vR 5 0 1775]) (M1 := M2) (if_pos hc3) ?_
      refine Z_blk k_X11_loves 2 (pc' := 86) (lo' := [some (vR 0 21 0), some (vI a1), some (vI a2), some (vI s0)]) (st' := [vI (o_add (M2 5 (Int.toNat (o_add 77 a1))) 1), vI (o_add 77 a1), vR 5 0 1775]) (M1 := M2) rfl ?_
      obtain ⟨M4, eM4, h⟩ := of_zlet h
      refine Z_one k_X11_loves rfl (pc' := 87) (lo' := [some (vR 0 21 0), some (vI a1), some (vI a2), some (vI s0)]) (st' := []) (M1 := M4) (by rw [eM4]; exact if_pos hc3) ?_
      cases h
      exact Z_ret ⟨rfl, _, rfl⟩ rfl
  · replace h := of_neg hc h
    refine Z_blk k_X11_loves 6 (pc' := 63) (lo' := [some (vR 0 21 0), some (vI a1), some (vI a2), some (vI s0)]) (st' := [vI (o_add 71 a1), vR 5 0 1775, vI (o_add 71 a1), vR 5 0 1775]) (M1 := M2) rfl ?_
    obtain ⟨hc5, h⟩ := of_grd h
    refine Z_one k_X11_loves rfl (pc' := 64) (lo' := [some (vR 0 21 0), some (vI a1), some (vI a2), some (vI s0)]) (st' := [vI (M2 5 (Int.toNat (o_add 71 a1))), vI (o_add 71 a1), vR 5 0 1775]) (M1 := M2) (if_pos hc5) ?_
    refine Z_blk k_X11_loves 2 (pc' := 66) (lo' := [some (vR 0 21 0), some (vI a1), some (vI a2), some (vI s0)]) (st' := [vI (o_add (M2 5 (Int.toNat (o_add 71 a1))) 1), vI (o_add 71 a1), vR 5 0 1775]) (M1 := M2) rfl ?_
    obtain ⟨M6, eM6, h⟩ := of_zlet h
    refine Z_one k_X11_loves rfl (pc' := 67) (lo' := [some (vR 0 21 0), some (vI a1), some (vI a2), some (vI s0)]) (st' := []) (M1 := M6) (by rw [eM6]; exact if_pos hc5) ?_
    refine Z_blk k_X11_loves 1 (pc' := 87) (lo' := [some (vR 0 21 0), some (vI a1), some (vI a2), some (vI s0)]) (st' := []) (M1 := M6) rfl ?_
    cases h
    exact Z_ret ⟨rfl, _, rfl⟩ rfl
def f_X11_loves (a1 : Int) (a2 : Int) (M : AM) : Option (AM) := if ¬ a2 = a1 then (if 0 ≤ a2 then f_X11_loves_19 a1 a2 (-2) M else f_X11_loves_19 a1 a2 (-1) M) else f_X11_loves_19 a1 a2 1 M
theorem e_X11_loves {Y : List (Nat × Nat)} (d : Nat) (a1 : Int) (a2 : Int) (M : AM) (N : AM) (h : f_X11_loves a1 a2 M = some N) : Ev Y (d + 0) m_X11_loves 0 [some (vR 0 21 0), some (vI a1), some (vI a2), none] [] M none N := by
  unfold f_X11_loves at h
  refine Z_blk k_X11_loves 2 (pc' := 2) (lo' := [some (vR 0 21 0), some (vI a1), some (vI a2), none]) (st' := [vI a1, vI a2]) (M1 := M) rfl ?_
  refine Z_icmp k_X11_loves rfl 9 rfl (fun hc => ?_) (fun hc => ?_)
  · replace h := of_pos hc h
    refine Z_blk k_X11_loves 1 (pc' := 10) (lo' := [some (vR 0 21 0), some (vI a1), some (vI a2), none]) (st' := [vI a2]) (M1 := M) rfl ?_
    refine Z_if k_X11_loves rfl 17 rfl (fun hc => ?_) (fun hc => ?_)
    · replace h := of_pos hc h
      refine Z_blk k_X11_loves 1 (pc' := 19) (lo' := [some (vR 0 21 0), some (vI a1), some (vI a2), none]) (st' := [vI (-2)]) (M1 := M) rfl ?_
      refine Z_mask [true, true, true, false] (lo0 := [some (vR 0 21 0), some (vI a1), some (vI a2), none]) rfl ?_
      exact e_X11_loves_19 d a1 a2 (-2) M _ h
    · replace h := of_neg hc h
      refine Z_blk k_X11_loves 2 (pc' := 19) (lo' := [some (vR 0 21 0), some (vI a1), some (vI a2), none]) (st' := [vI (-1)]) (M1 := M) rfl ?_
      refine Z_mask [true, true, true, false] (lo0 := [some (vR 0 21 0), some (vI a1), some (vI a2), none]) rfl ?_
      exact e_X11_loves_19 d a1 a2 (-1) M _ h
  · replace h := of_neg hc h
    refine Z_blk k_X11_loves 2 (pc' := 19) (lo' := [some (vR 0 21 0), some (vI a1), some (vI a2), none]) (st' := [vI 1]) (M1 := M) rfl ?_
    refine Z_mask [true, true, true, false] (lo0 := [some (vR 0 21 0), some (vI a1), some (vI a2), none]) rfl ?_
    exact e_X11_loves_19 d a1 a2 1 M _ h
theorem l_11_353 : zhas 7232 (Jvm.Cond.methodLink "BellPullHouseModel" 353 yX11_answerOf) = true := by decide +kernel
theorem l_11_356 : zhas 7236 (Jvm.Cond.methodLink "BellPullHouseModel" 356 yX11_loves) = true := by decide +kernel
def f_X11_goesDay_127 : Nat → Int → Int → AM → Option (Int × AM)
  | 0, _, _, _ => none
  | n + 1, a1, a2, M => if M 5 (Int.toNat 1) ≤ a2 then (zlet (am_upd M 5 (Int.toNat 5) (o_add (M 5 (Int.toNat 5)) 1)) fun M1 => some (a1, M1)) else (if ¬ M 5 (Int.toNat 6) = 1 then f_X11_goesDay_127 n a1 (o_add a2 1) M else (if 0 ≤ o_add 37 a2 ∧ o_add 37 a2 < 1775 then (if ¬ M 5 (Int.toNat (o_add 37 a2)) = 1 then f_X11_goesDay_127 n a1 (o_add a2 1) M else (if 0 ≤ o_add 27 a2 ∧ o_add 27 a2 < 1775 then (zlet (am_upd M 5 (Int.toNat (o_add 27 a2)) (o_min 9 (o_add (M 5 (Int.toNat (o_add 27 a2))) 1))) fun M4 => f_X11_goesDay_127 n a1 (o_add a2 1) M4) else none)) else none))
theorem e_X11_goesDay_127 {Y : List (Nat × Nat)} (d : Nat) : ∀ (n : Nat) (a1 : Int) (a2 : Int) (M : AM) (x : Int) (N : AM), f_X11_goesDay_127 n a1 a2 M = some (x, N) → Ev Y (d + 3) m_X11_goesDay 127 [some (vR 0 21 0), some (vI a1), some (vI a2)] [] M (some (vI x)) N := by
  intro n
  induction n with
  | zero => intro a1 a2 M x N h; cases h
  | succ n ih =>
    intro a1 a2 M x N h
    simp only [f_X11_goesDay_127] at h
    refine Z_blk k_X11_goesDay 4 (pc' := 133) (lo' := [some (vR 0 21 0), some (vI a1), some (vI a2)]) (st' := [vI 1, vR 5 0 1775, vI a2]) (M1 := M) rfl ?_
    refine Z_one k_X11_goesDay rfl (pc' := 134) (lo' := [some (vR 0 21 0), some (vI a1), some (vI a2)]) (st' := [vI (M 5 (Int.toNat 1)), vI a2]) (M1 := M) (rfl) ?_
    refine Z_icmp k_X11_goesDay rfl 192 rfl (fun hc => ?_) (fun hc => ?_)
    · replace h := of_pos hc h
      refine Z_blk k_X11_goesDay 4 (pc' := 198) (lo' := [some (vR 0 21 0), some (vI a1), some (vI a2)]) (st' := [vI 5, vR 5 0 1775, vI 5, vR 5 0 1775]) (M1 := M) rfl ?_
      refine Z_one k_X11_goesDay rfl (pc' := 199) (lo' := [some (vR 0 21 0), some (vI a1), some (vI a2)]) (st' := [vI (M 5 (Int.toNat 5)), vI 5, vR 5 0 1775]) (M1 := M) (rfl) ?_
      refine Z_blk k_X11_goesDay 2 (pc' := 201) (lo' := [some (vR 0 21 0), some (vI a1), some (vI a2)]) (st' := [vI (o_add (M 5 (Int.toNat 5)) 1), vI 5, vR 5 0 1775]) (M1 := M) rfl ?_
      obtain ⟨M1, eM1, h⟩ := of_zlet h
      refine Z_one k_X11_goesDay rfl (pc' := 202) (lo' := [some (vR 0 21 0), some (vI a1), some (vI a2)]) (st' := []) (M1 := M1) (by rw [eM1]; exact rfl) ?_
      refine Z_blk k_X11_goesDay 1 (pc' := 203) (lo' := [some (vR 0 21 0), some (vI a1), some (vI a2)]) (st' := [vI a1]) (M1 := M1) rfl ?_
      cases h
      exact Z_ret ⟨Or.inl rfl, _, rfl⟩ rfl
    · replace h := of_neg hc h
      refine Z_blk k_X11_goesDay 3 (pc' := 143) (lo' := [some (vR 0 21 0), some (vI a1), some (vI a2)]) (st' := [vI 6, vR 5 0 1775]) (M1 := M) rfl ?_
      refine Z_one k_X11_goesDay rfl (pc' := 144) (lo' := [some (vR 0 21 0), some (vI a1), some (vI a2)]) (st' := [vI (M 5 (Int.toNat 6))]) (M1 := M) (rfl) ?_
      refine Z_blk k_X11_goesDay 1 (pc' := 145) (lo' := [some (vR 0 21 0), some (vI a1), some (vI a2)]) (st' := [vI 1, vI (M 5 (Int.toNat 6))]) (M1 := M) rfl ?_
      refine Z_icmp k_X11_goesDay rfl 186 rfl (fun hc => ?_) (fun hc => ?_)
      · replace h := of_pos hc h
        refine Z_blk k_X11_goesDay 2 (pc' := 127) (lo' := [some (vR 0 21 0), some (vI a1), some (vI (o_add a2 1))]) (st' := []) (M1 := M) rfl ?_
        refine Z_mask [true, true, true] (lo0 := [some (vR 0 21 0), some (vI a1), some (vI (o_add a2 1))]) rfl ?_
        exact ih a1 (o_add a2 1) M _ _ h
      · replace h := of_neg hc h
        refine Z_blk k_X11_goesDay 5 (pc' := 156) (lo' := [some (vR 0 21 0), some (vI a1), some (vI a2)]) (st' := [vI (o_add 37 a2), vR 5 0 1775]) (M1 := M) rfl ?_
        obtain ⟨hc2, h⟩ := of_grd h
        refine Z_one k_X11_goesDay rfl (pc' := 157) (lo' := [some (vR 0 21 0), some (vI a1), some (vI a2)]) (st' := [vI (M 5 (Int.toNat (o_add 37 a2)))]) (M1 := M) (if_pos hc2) ?_
        refine Z_blk k_X11_goesDay 1 (pc' := 158) (lo' := [some (vR 0 21 0), some (vI a1), some (vI a2)]) (st' := [vI 1, vI (M 5 (Int.toNat (o_add 37 a2)))]) (M1 := M) rfl ?_
        refine Z_icmp k_X11_goesDay rfl 186 rfl (fun hc => ?_) (fun hc => ?_)
        · replace h := of_pos hc h
          refine Z_blk k_X11_goesDay 2 (pc' := 127) (lo' := [some (vR 0 21 0), some (vI a1), some (vI (o_add a2 1))]) (st' := []) (M1 := M) rfl ?_
          refine Z_mask [true, true, true] (lo0 := [some (vR 0 21 0), some (vI a1), some (vI (o_add a2 1))]) rfl ?_
          exact ih a1 (o_add a2 1) M _ _ h
        · replace h := of_neg hc h
          refine Z_blk k_X11_goesDay 11 (pc' := 179) (lo' := [some (vR 0 21 0), some (vI a1), some (vI a2)]) (st' := [vI (o_add 27 a2), vR 5 0 1775, vI 9, vI (o_add 27 a2), vR 5 0 1775]) (M1 := M) rfl ?_
          obtain ⟨hc3, h⟩ := of_grd h
          refine Z_one k_X11_goesDay rfl (pc' := 180) (lo' := [some (vR 0 21 0), some (vI a1), some (vI a2)]) (st' := [vI (M 5 (Int.toNat (o_add 27 a2))), vI 9, vI (o_add 27 a2), vR 5 0 1775]) (M1 := M) (if_pos hc3) ?_
          refine Z_blk k_X11_goesDay 3 (pc' := 185) (lo' := [some (vR 0 21 0), some (vI a1), some (vI a2)]) (st' := [vI (o_min 9 (o_add (M 5 (Int.toNat (o_add 27 a2))) 1)), vI (o_add 27 a2), vR 5 0 1775]) (M1 := M) rfl ?_
          obtain ⟨M4, eM4, h⟩ := of_zlet h
          refine Z_one k_X11_goesDay rfl (pc' := 186) (lo' := [some (vR 0 21 0), some (vI a1), some (vI a2)]) (st' := []) (M1 := M4) (by rw [eM4]; exact if_pos hc3) ?_
          refine Z_blk k_X11_goesDay 2 (pc' := 127) (lo' := [some (vR 0 21 0), some (vI a1), some (vI (o_add a2 1))]) (st' := []) (M1 := M4) rfl ?_
          refine Z_mask [true, true, true] (lo0 := [some (vR 0 21 0), some (vI a1), some (vI (o_add a2 1))]) rfl ?_
          exact ih a1 (o_add a2 1) M4 _ _ h
def f_X11_goesDay_54 : Nat → Int → Int → AM → Option (Int × AM)
  | 0, _, _, _ => none
  | n + 1, a1, a2, M => if M 5 (Int.toNat 2) ≤ a2 then f_X11_goesDay_127 zB a1 0 M else (if 0 ≤ a2 ∧ a2 < 6 then (if (-1) ≤ M 10 (Int.toNat a2) then ((f_X11_loves a2 (M 10 (Int.toNat a2)) M).bind fun x2 => if 0 ≤ o_add 59 a2 ∧ o_add 59 a2 < 1775 then (if x2 5 (Int.toNat (o_add 59 a2)) ≤ 0 then (if 0 ≤ o_add 65 a2 ∧ o_add 65 a2 < 1775 then (zlet (am_upd x2 5 (Int.toNat (o_add 65 a2)) 0) fun M5 => f_X11_goesDay_54 n (o_or a1 (o_shl 1 a2)) (o_add a2 1) M5) else none) else f_X11_goesDay_54 n a1 (o_add a2 1) x2) else none) else f_X11_goesDay_54 n a1 (o_add a2 1) M) else none)
theorem e_X11_goesDay_54 {Y : List (Nat × Nat)} (d : Nat) : ∀ (n : Nat) (a1 : Int) (a2 : Int) (M : AM) (x : Int) (N : AM), f_X11_goesDay_54 n a1 a2 M = some (x, N) → Ev Y (d + 3) m_X11_goesDay 54 [some (vR 0 21 0), some (vI a1), some (vI a2)] [] M (some (vI x)) N := by
  intro n
  induction n with
  | zero => intro a1 a2 M x N h; cases h
  | succ n ih =>
    intro a1 a2 M x N h
    simp only [f_X11_goesDay_54] at h
    refine Z_blk k_X11_goesDay 4 (pc' := 60) (lo' := [some (vR 0 21 0), some (vI a1), some (vI a2)]) (st' := [vI 2, vR 5 0 1775, vI a2]) (M1 := M) rfl ?_
    refine Z_one k_X11_goesDay rfl (pc' := 61) (lo' := [some (vR 0 21 0), some (vI a1), some (vI a2)]) (st' := [vI (M 5 (Int.toNat 2)), vI a2]) (M1 := M) (rfl) ?_
    refine Z_icmp k_X11_goesDay rfl 125 rfl (fun hc => ?_) (fun hc => ?_)
    · replace h := of_pos hc h
      refine Z_blk k_X11_goesDay 2 (pc' := 127) (lo' := [some (vR 0 21 0), some (vI a1), some (vI 0)]) (st' := []) (M1 := M) rfl ?_
      refine Z_mask [true, true, true] (lo0 := [some (vR 0 21 0), some (vI a1), some (vI 0)]) rfl ?_
      exact e_X11_goesDay_127 d zB a1 0 M _ _ h
    · replace h := of_neg hc h
      refine Z_blk k_X11_goesDay 3 (pc' := 69) (lo' := [some (vR 0 21 0), some (vI a1), some (vI a2)]) (st' := [vI a2, vR 10 0 6]) (M1 := M) rfl ?_
      obtain ⟨hc1, h⟩ := of_grd h
      refine Z_one k_X11_goesDay rfl (pc' := 70) (lo' := [some (vR 0 21 0), some (vI a1), some (vI a2)]) (st' := [vI (M 10 (Int.toNat a2))]) (M1 := M) (if_pos hc1) ?_
      refine Z_blk k_X11_goesDay 1 (pc' := 71) (lo' := [some (vR 0 21 0), some (vI a1), some (vI a2)]) (st' := [vI (-1), vI (M 10 (Int.toNat a2))]) (M1 := M) rfl ?_
      refine Z_icmp k_X11_goesDay rfl 77 rfl (fun hc => ?_) (fun hc => ?_)
      · replace h := of_pos hc h
        refine Z_blk k_X11_goesDay 5 (pc' := 84) (lo' := [some (vR 0 21 0), some (vI a1), some (vI a2)]) (st' := [vI a2, vR 10 0 6, vI a2, vR 0 21 0]) (M1 := M) rfl ?_
        refine Z_one k_X11_goesDay rfl (pc' := 85) (lo' := [some (vR 0 21 0), some (vI a1), some (vI a2)]) (st' := [vI (M 10 (Int.toNat a2)), vI a2, vR 0 21 0]) (M1 := M) (if_pos hc1) ?_
        obtain ⟨x2, hx2, h⟩ := Option.bind_eq_some_iff.mp h
        refine Z_callV8 k_X11_goesDay k_X11_loves rfl rfl (l_11_356) (ci := 11) rfl [vI a2, vI (M 10 (Int.toNat a2))] [] rfl rfl (Nat.le_of_ble_eq_true rfl) (Nat.le_of_ble_eq_true rfl) (e_X11_loves (d + 2) a2 (M 10 (Int.toNat a2)) M _ hx2) ?_
        refine Z_blk k_X11_goesDay 5 (pc' := 96) (lo' := [some (vR 0 21 0), some (vI a1), some (vI a2)]) (st' := [vI (o_add 59 a2), vR 5 0 1775]) (M1 := x2) rfl ?_
        obtain ⟨hc3, h⟩ := of_grd h
        refine Z_one k_X11_goesDay rfl (pc' := 97) (lo' := [some (vR 0 21 0), some (vI a1), some (vI a2)]) (st' := [vI (x2 5 (Int.toNat (o_add 59 a2)))]) (M1 := x2) (if_pos hc3) ?_
        refine Z_if k_X11_goesDay rfl 103 rfl (fun hc => ?_) (fun hc => ?_)
        · replace h := of_pos hc h
          refine Z_blk k_X11_goesDay 6 (pc' := 112) (lo' := [some (vR 0 21 0), some (vI a1), some (vI a2)]) (st' := [vI 0, vI (o_add 65 a2), vR 5 0 1775]) (M1 := x2) rfl ?_
          obtain ⟨hc4, h⟩ := of_grd h
          obtain ⟨M5, eM5, h⟩ := of_zlet h
          refine Z_one k_X11_goesDay rfl (pc' := 113) (lo' := [some (vR 0 21 0), some (vI a1), some (vI a2)]) (st' := []) (M1 := M5) (by rw [eM5]; exact if_pos hc4) ?_
          refine Z_blk k_X11_goesDay 8 (pc' := 54) (lo' := [some (vR 0 21 0), some (vI (o_or a1 (o_shl 1 a2))), some (vI (o_add a2 1))]) (st' := []) (M1 := M5) rfl ?_
          refine Z_mask [true, true, true] (lo0 := [some (vR 0 21 0), some (vI (o_or a1 (o_shl 1 a2))), some (vI (o_add a2 1))]) rfl ?_
          exact ih (o_or a1 (o_shl 1 a2)) (o_add a2 1) M5 _ _ h
        · replace h := of_neg hc h
          refine Z_blk k_X11_goesDay 3 (pc' := 54) (lo' := [some (vR 0 21 0), some (vI a1), some (vI (o_add a2 1))]) (st' := []) (M1 := x2) rfl ?_
          refine Z_mask [true, true, true] (lo0 := [some (vR 0 21 0), some (vI a1), some (vI (o_add a2 1))]) rfl ?_
          exact ih a1 (o_add a2 1) x2 _ _ h
      · replace h := of_neg hc h
        refine Z_blk k_X11_goesDay 3 (pc' := 54) (lo' := [some (vR 0 21 0), some (vI a1), some (vI (o_add a2 1))]) (st' := []) (M1 := M) rfl ?_
        refine Z_mask [true, true, true] (lo0 := [some (vR 0 21 0), some (vI a1), some (vI (o_add a2 1))]) rfl ?_
        exact ih a1 (o_add a2 1) M _ _ h
def f_X11_goesDay_8 : Nat → Int → Int → AM → Option (Int × AM)
  | 0, _, _, _ => none
  | n + 1, a1, a2, M => if M 5 (Int.toNat 2) ≤ a2 then f_X11_goesDay_54 zB a1 0 M else (if 0 ≤ o_add 65 a2 ∧ o_add 65 a2 < 1775 then (if ¬ M 5 (Int.toNat (o_add 65 a2)) = 0 then ((f_X11_answerOf a2 M).bind fun x2 => if 0 ≤ a2 ∧ a2 < 6 then (zlet (am_upd x2.2 10 (Int.toNat a2) x2.1) fun M4 => f_X11_goesDay_8 n a1 (o_add a2 1) M4) else none) else (if 0 ≤ a2 ∧ a2 < 6 then (zlet (am_upd M 10 (Int.toNat a2) (-2)) fun M6 => f_X11_goesDay_8 n a1 (o_add a2 1) M6) else none)) else none)
theorem e_X11_goesDay_8 {Y : List (Nat × Nat)} (d : Nat) : ∀ (n : Nat) (a1 : Int) (a2 : Int) (M : AM) (x : Int) (N : AM), f_X11_goesDay_8 n a1 a2 M = some (x, N) → Ev Y (d + 3) m_X11_goesDay 8 [some (vR 0 21 0), some (vI a1), some (vI a2)] [] M (some (vI x)) N := by
  intro n
  induction n with
  | zero => intro a1 a2 M x N h; cases h
  | succ n ih =>
    intro a1 a2 M x N h
    simp only [f_X11_goesDay_8] at h
    refine Z_blk k_X11_goesDay 4 (pc' := 14) (lo' := [some (vR 0 21 0), some (vI a1), some (vI a2)]) (st' := [vI 2, vR 5 0 1775, vI a2]) (M1 := M) rfl ?_
    refine Z_one k_X11_goesDay rfl (pc' := 15) (lo' := [some (vR 0 21 0), some (vI a1), some (vI a2)]) (st' := [vI (M 5 (Int.toNat 2)), vI a2]) (M1 := M) (rfl) ?_
    refine Z_icmp k_X11_goesDay rfl 52 rfl (fun hc => ?_) (fun hc => ?_)
    · replace h := of_pos hc h
      refine Z_blk k_X11_goesDay 2 (pc' := 54) (lo' := [some (vR 0 21 0), some (vI a1), some (vI 0)]) (st' := []) (M1 := M) rfl ?_
      refine Z_mask [true, true, true] (lo0 := [some (vR 0 21 0), some (vI a1), some (vI 0)]) rfl ?_
      exact e_X11_goesDay_54 d zB a1 0 M _ _ h
    · replace h := of_neg hc h
      refine Z_blk k_X11_goesDay 8 (pc' := 31) (lo' := [some (vR 0 21 0), some (vI a1), some (vI a2)]) (st' := [vI (o_add 65 a2), vR 5 0 1775, vI a2, vR 10 0 6]) (M1 := M) rfl ?_
      obtain ⟨hc1, h⟩ := of_grd h
      refine Z_one k_X11_goesDay rfl (pc' := 32) (lo' := [some (vR 0 21 0), some (vI a1), some (vI a2)]) (st' := [vI (M 5 (Int.toNat (o_add 65 a2))), vI a2, vR 10 0 6]) (M1 := M) (if_pos hc1) ?_
      refine Z_if k_X11_goesDay rfl 40 rfl (fun hc => ?_) (fun hc => ?_)
      · replace h := of_pos hc h
        refine Z_blk k_X11_goesDay 2 (pc' := 42) (lo' := [some (vR 0 21 0), some (vI a1), some (vI a2)]) (st' := [vI a2, vR 0 21 0, vI a2, vR 10 0 6]) (M1 := M) rfl ?_
        obtain ⟨x2, hx2, h⟩ := Option.bind_eq_some_iff.mp h
        refine Z_callV8 k_X11_goesDay k_X11_answerOf rfl rfl (l_11_353) (ci := 11) rfl [vI a2] [vI a2, vR 10 0 6] rfl rfl (Nat.le_of_ble_eq_true rfl) (Nat.le_of_ble_eq_true rfl) (e_X11_answerOf (d + 0) a2 M _ _ hx2) ?_
        obtain ⟨hc3, h⟩ := of_grd h
        obtain ⟨M4, eM4, h⟩ := of_zlet h
        refine Z_one k_X11_goesDay rfl (pc' := 46) (lo' := [some (vR 0 21 0), some (vI a1), some (vI a2)]) (st' := []) (M1 := M4) (by rw [eM4]; exact if_pos hc3) ?_
        refine Z_blk k_X11_goesDay 2 (pc' := 8) (lo' := [some (vR 0 21 0), some (vI a1), some (vI (o_add a2 1))]) (st' := []) (M1 := M4) rfl ?_
        refine Z_mask [true, true, true] (lo0 := [some (vR 0 21 0), some (vI a1), some (vI (o_add a2 1))]) rfl ?_
        exact ih a1 (o_add a2 1) M4 _ _ h
      · replace h := of_neg hc h
        refine Z_blk k_X11_goesDay 2 (pc' := 45) (lo' := [some (vR 0 21 0), some (vI a1), some (vI a2)]) (st' := [vI (-2), vI a2, vR 10 0 6]) (M1 := M) rfl ?_
        obtain ⟨hc5, h⟩ := of_grd h
        obtain ⟨M6, eM6, h⟩ := of_zlet h
        refine Z_one k_X11_goesDay rfl (pc' := 46) (lo' := [some (vR 0 21 0), some (vI a1), some (vI a2)]) (st' := []) (M1 := M6) (by rw [eM6]; exact if_pos hc5) ?_
        refine Z_blk k_X11_goesDay 2 (pc' := 8) (lo' := [some (vR 0 21 0), some (vI a1), some (vI (o_add a2 1))]) (st' := []) (M1 := M6) rfl ?_
        refine Z_mask [true, true, true] (lo0 := [some (vR 0 21 0), some (vI a1), some (vI (o_add a2 1))]) rfl ?_
        exact ih a1 (o_add a2 1) M6 _ _ h
def f_X11_goesDay (M : AM) : Option (Int × AM) := (f_X11_laysFar M).bind fun x1 => f_X11_goesDay_8 zB 0 0 x1
theorem e_X11_goesDay {Y : List (Nat × Nat)} (d : Nat) (M : AM) (x : Int) (N : AM) (h : f_X11_goesDay M = some (x, N)) : Ev Y (d + 3) m_X11_goesDay 0 [some (vR 0 21 0), none, none] [] M (some (vI x)) N := by
  unfold f_X11_goesDay at h
  refine Z_blk k_X11_goesDay 3 (pc' := 3) (lo' := [some (vR 0 21 0), some (vI 0), none]) (st' := [vR 0 21 0]) (M1 := M) rfl ?_
  obtain ⟨x1, hx1, h⟩ := Option.bind_eq_some_iff.mp h
  refine Z_callV8 k_X11_goesDay k_X11_laysFar rfl rfl (l_11_318) (ci := 11) rfl [] [] rfl rfl (Nat.le_of_ble_eq_true rfl) (Nat.le_of_ble_eq_true rfl) (e_X11_laysFar (d + 2) M _ hx1) ?_
  refine Z_blk k_X11_goesDay 2 (pc' := 8) (lo' := [some (vR 0 21 0), some (vI 0), some (vI 0)]) (st' := []) (M1 := x1) rfl ?_
  refine Z_mask [true, true, true] (lo0 := [some (vR 0 21 0), some (vI 0), some (vI 0)]) rfl ?_
  exact e_X11_goesDay_8 d zB 0 0 x1 _ _ h
theorem l_11_361 : zhas 7228 (Jvm.Cond.methodLink "BellPullHouseModel" 361 yX11_goesDay) = true := by decide +kernel
def f_X11_day_53 : Nat → Int → Int → Int → AM → Option (Int × AM)
  | 0, _, _, _, _ => none
  | n + 1, a1, a2, a3, M => if a1 ≤ a3 then some (a2, M) else ((f_X11_goesDay M).bind fun x1 => f_X11_day_53 n a1 (o_or a2 x1.1) (o_add a3 1) x1.2)
theorem e_X11_day_53 {Y : List (Nat × Nat)} (d : Nat) : ∀ (n : Nat) (a1 : Int) (a2 : Int) (a3 : Int) (M : AM) (x : Int) (N : AM), f_X11_day_53 n a1 a2 a3 M = some (x, N) → Ev Y (d + 4) m_X11_day 53 [some (vR 0 21 0), some (vI a1), some (vI a2), some (vI a3)] [] M (some (vI x)) N := by
  intro n
  induction n with
  | zero => intro a1 a2 a3 M x N h; cases h
  | succ n ih =>
    intro a1 a2 a3 M x N h
    simp only [f_X11_day_53] at h
    refine Z_blk k_X11_day 2 (pc' := 55) (lo' := [some (vR 0 21 0), some (vI a1), some (vI a2), some (vI a3)]) (st' := [vI a1, vI a3]) (M1 := M) rfl ?_
    refine Z_icmp k_X11_day rfl 71 rfl (fun hc => ?_) (fun hc => ?_)
    · replace h := of_pos hc h
      refine Z_blk k_X11_day 1 (pc' := 72) (lo' := [some (vR 0 21 0), some (vI a1), some (vI a2), some (vI a3)]) (st' := [vI a2]) (M1 := M) rfl ?_
      cases h
      exact Z_ret ⟨Or.inl rfl, _, rfl⟩ rfl
    · replace h := of_neg hc h
      refine Z_blk k_X11_day 2 (pc' := 60) (lo' := [some (vR 0 21 0), some (vI a1), some (vI a2), some (vI a3)]) (st' := [vR 0 21 0, vI a2]) (M1 := M) rfl ?_
      obtain ⟨x1, hx1, h⟩ := Option.bind_eq_some_iff.mp h
      refine Z_callV8 k_X11_day k_X11_goesDay rfl rfl (l_11_361) (ci := 11) rfl [] [vI a2] rfl rfl (Nat.le_of_ble_eq_true rfl) (Nat.le_of_ble_eq_true rfl) (e_X11_goesDay (d + 0) M _ _ hx1) ?_
      refine Z_blk k_X11_day 4 (pc' := 53) (lo' := [some (vR 0 21 0), some (vI a1), some (vI (o_or a2 x1.1)), some (vI (o_add a3 1))]) (st' := []) (M1 := x1.2) rfl ?_
      refine Z_mask [true, true, true, true] (lo0 := [some (vR 0 21 0), some (vI a1), some (vI (o_or a2 x1.1)), some (vI (o_add a3 1))]) rfl ?_
      exact ih a1 (o_or a2 x1.1) (o_add a3 1) x1.2 _ _ h
def f_X11_day (a1 : Int) (M : AM) : Option (Int × AM) := zlet (am_upd M 0 1 0) fun M1 => zlet (am_upd M1 0 0 0) fun M2 => (f_X11_isIn a1 1 99 M2).bind fun x3 => if ¬ x3.1 = 0 then (if o_add (x3.2 5 (Int.toNat 5)) a1 ≤ 9999 then f_X11_day_53 zB a1 0 0 x3.2 else ((f_X11_refuse 7 x3.2).bind fun x4 => some (x4.1, x4.2))) else ((f_X11_refuse 5 x3.2).bind fun x5 => some (x5.1, x5.2))
theorem e_X11_day {Y : List (Nat × Nat)} (d : Nat) (a1 : Int) (M : AM) (x : Int) (N : AM) (h : f_X11_day a1 M = some (x, N)) : Ev Y (d + 4) m_X11_day 0 [some (vR 0 21 0), some (vI a1), none, none] [] M (some (vI x)) N := by
  unfold f_X11_day at h
  obtain ⟨M1, eM1, h⟩ := of_zlet h
  refine Z_blk k_X11_day 3 (pc' := 5) (lo' := [some (vR 0 21 0), some (vI a1), none, none]) (st' := []) (M1 := M1) (by rw [eM1]; rfl) ?_
  obtain ⟨M2, eM2, h⟩ := of_zlet h
  refine Z_blk k_X11_day 3 (pc' := 10) (lo' := [some (vR 0 21 0), some (vI a1), none, none]) (st' := []) (M1 := M2) (by rw [eM2]; rfl) ?_
  refine Z_blk k_X11_day 4 (pc' := 16) (lo' := [some (vR 0 21 0), some (vI a1), none, none]) (st' := [vL 99, vL 1, vL a1]) (M1 := M2) rfl ?_
  obtain ⟨x3, hx3, h⟩ := Option.bind_eq_some_iff.mp h
  refine Z_callS8 k_X11_day k_X11_isIn rfl rfl (l_11_104) [vL a1, vL 1, vL 99] [] rfl rfl (Nat.le_of_ble_eq_true rfl) (Nat.le_of_ble_eq_true rfl) (e_X11_isIn (d + 3) a1 1 99 M2 _ _ hx3) ?_
  refine Z_if k_X11_day rfl 28 rfl (fun hc => ?_) (fun hc => ?_)
  · replace h := of_pos hc h
    refine Z_blk k_X11_day 3 (pc' := 33) (lo' := [some (vR 0 21 0), some (vI a1), none, none]) (st' := [vI 5, vR 5 0 1775]) (M1 := x3.2) rfl ?_
    refine Z_one k_X11_day rfl (pc' := 34) (lo' := [some (vR 0 21 0), some (vI a1), none, none]) (st' := [vI (x3.2 5 (Int.toNat 5))]) (M1 := x3.2) (rfl) ?_
    refine Z_blk k_X11_day 3 (pc' := 39) (lo' := [some (vR 0 21 0), some (vI a1), none, none]) (st' := [vI 9999, vI (o_add (x3.2 5 (Int.toNat 5)) a1)]) (M1 := x3.2) rfl ?_
    refine Z_icmp k_X11_day rfl 49 rfl (fun hc => ?_) (fun hc => ?_)
    · replace h := of_pos hc h
      refine Z_blk k_X11_day 4 (pc' := 53) (lo' := [some (vR 0 21 0), some (vI a1), some (vI 0), some (vI 0)]) (st' := []) (M1 := x3.2) rfl ?_
      refine Z_mask [true, true, true, true] (lo0 := [some (vR 0 21 0), some (vI a1), some (vI 0), some (vI 0)]) rfl ?_
      exact e_X11_day_53 d zB a1 0 0 x3.2 _ _ h
    · replace h := of_neg hc h
      refine Z_blk k_X11_day 2 (pc' := 45) (lo' := [some (vR 0 21 0), some (vI a1), none, none]) (st' := [vI 7, vR 0 21 0]) (M1 := x3.2) rfl ?_
      obtain ⟨x4, hx4, h⟩ := Option.bind_eq_some_iff.mp h
      refine Z_callV8 k_X11_day k_X11_refuse rfl rfl (l_11_326) (ci := 11) rfl [vI 7] [] rfl rfl (Nat.le_of_ble_eq_true rfl) (Nat.le_of_ble_eq_true rfl) (e_X11_refuse (d + 3) 7 x3.2 _ _ hx4) ?_
      cases h
      exact Z_ret ⟨Or.inl rfl, _, rfl⟩ rfl
  · replace h := of_neg hc h
    refine Z_blk k_X11_day 2 (pc' := 24) (lo' := [some (vR 0 21 0), some (vI a1), none, none]) (st' := [vI 5, vR 0 21 0]) (M1 := x3.2) rfl ?_
    obtain ⟨x5, hx5, h⟩ := Option.bind_eq_some_iff.mp h
    refine Z_callV8 k_X11_day k_X11_refuse rfl rfl (l_11_326) (ci := 11) rfl [vI 5] [] rfl rfl (Nat.le_of_ble_eq_true rfl) (Nat.le_of_ble_eq_true rfl) (e_X11_refuse (d + 3) 5 x3.2 _ _ hx5) ?_
    cases h
    exact Z_ret ⟨Or.inl rfl, _, rfl⟩ rfl
def f_X11_becomes (a1 : Int) (a2 : Int) (M : AM) : Option (Int × AM) := if 0 ≤ a1 ∧ a1 < 1775 then (if ¬ M 5 (Int.toNat a1) = a2 then (zlet (am_upd M 5 (Int.toNat a1) a2) fun M2 => some (1, M2)) else some (0, M)) else none
theorem e_X11_becomes {Y : List (Nat × Nat)} (d : Nat) (a1 : Int) (a2 : Int) (M : AM) (x : Int) (N : AM) (h : f_X11_becomes a1 a2 M = some (x, N)) : Ev Y (d + 0) m_X11_becomes 0 [some (vR 0 21 0), some (vI a1), some (vI a2)] [] M (some (vI x)) N := by
  unfold f_X11_becomes at h
  refine Z_blk k_X11_becomes 3 (pc' := 5) (lo' := [some (vR 0 21 0), some (vI a1), some (vI a2)]) (st' := [vI a1, vR 5 0 1775]) (M1 := M) rfl ?_
  obtain ⟨hc1, h⟩ := of_grd h
  refine Z_one k_X11_becomes rfl (pc' := 6) (lo' := [some (vR 0 21 0), some (vI a1), some (vI a2)]) (st' := [vI (M 5 (Int.toNat a1))]) (M1 := M) (if_pos hc1) ?_
  refine Z_blk k_X11_becomes 1 (pc' := 7) (lo' := [some (vR 0 21 0), some (vI a1), some (vI a2)]) (st' := [vI a2, vI (M 5 (Int.toNat a1))]) (M1 := M) rfl ?_
  refine Z_icmp k_X11_becomes rfl 12 rfl (fun hc => ?_) (fun hc => ?_)
  · replace h := of_pos hc h
    refine Z_blk k_X11_becomes 4 (pc' := 18) (lo' := [some (vR 0 21 0), some (vI a1), some (vI a2)]) (st' := [vI a2, vI a1, vR 5 0 1775]) (M1 := M) rfl ?_
    obtain ⟨M2, eM2, h⟩ := of_zlet h
    refine Z_one k_X11_becomes rfl (pc' := 19) (lo' := [some (vR 0 21 0), some (vI a1), some (vI a2)]) (st' := []) (M1 := M2) (by rw [eM2]; exact if_pos hc1) ?_
    refine Z_blk k_X11_becomes 1 (pc' := 20) (lo' := [some (vR 0 21 0), some (vI a1), some (vI a2)]) (st' := [vI 1]) (M1 := M2) rfl ?_
    cases h
    exact Z_ret ⟨Or.inr ⟨rfl, Or.inr rfl⟩, _, rfl⟩ rfl
  · replace h := of_neg hc h
    refine Z_blk k_X11_becomes 1 (pc' := 11) (lo' := [some (vR 0 21 0), some (vI a1), some (vI a2)]) (st' := [vI 0]) (M1 := M) rfl ?_
    cases h
    exact Z_ret ⟨Or.inr ⟨rfl, Or.inl rfl⟩, _, rfl⟩ rfl
theorem l_11_364 : zhas 8004 (Jvm.Cond.methodLink "BellPullHouseModel" 364 yX11_becomes) = true := by decide +kernel
def f_X11_damp_22 (s1 : Int) (s2 : Int) (M : AM) : Option (Int × AM) := (f_X11_becomes s1 s2 M).bind fun x1 => if ¬ x1.1 = 0 then some (1, x1.2) else ((f_X11_no 9 x1.2).bind fun x2 => if x2.1 = 0 then some (0, x2.2) else some (1, x2.2))
theorem e_X11_damp_22 {Y : List (Nat × Nat)} (d : Nat) (s1 : Int) (s2 : Int) (M : AM) (x : Int) (N : AM) (h : f_X11_damp_22 s1 s2 M = some (x, N)) : Ev Y (d + 1) m_X11_damp 22 [some (vR 0 21 0), none] [vI s2, vI s1, vR 0 21 0] M (some (vI x)) N := by
  unfold f_X11_damp_22 at h
  obtain ⟨x1, hx1, h⟩ := Option.bind_eq_some_iff.mp h
  refine Z_callV8 k_X11_damp k_X11_becomes rfl rfl (l_11_364) (ci := 11) rfl [vI s1, vI s2] [] rfl rfl (Nat.le_of_ble_eq_true rfl) (Nat.le_of_ble_eq_true rfl) (e_X11_becomes (d + 0) s1 s2 M _ _ hx1) ?_
  refine Z_if k_X11_damp rfl 37 rfl (fun hc => ?_) (fun hc => ?_)
  · replace h := of_pos hc h
    refine Z_blk k_X11_damp 2 (pc' := 42) (lo' := [some (vR 0 21 0), none]) (st' := [vI 1]) (M1 := x1.2) rfl ?_
    cases h
    exact Z_ret ⟨Or.inr ⟨rfl, Or.inr rfl⟩, _, rfl⟩ rfl
  · replace h := of_neg hc h
    refine Z_blk k_X11_damp 2 (pc' := 31) (lo' := [some (vR 0 21 0), none]) (st' := [vI 9, vR 0 21 0]) (M1 := x1.2) rfl ?_
    obtain ⟨x2, hx2, h⟩ := Option.bind_eq_some_iff.mp h
    refine Z_callV8 k_X11_damp k_X11_no rfl rfl (l_11_84) (ci := 11) rfl [vI 9] [] rfl rfl (Nat.le_of_ble_eq_true rfl) (Nat.le_of_ble_eq_true rfl) (e_X11_no (d + 0) 9 x1.2 _ _ hx2) ?_
    refine Z_if k_X11_damp rfl 41 rfl (fun hc => ?_) (fun hc => ?_)
    · replace h := of_pos hc h
      refine Z_blk k_X11_damp 1 (pc' := 42) (lo' := [some (vR 0 21 0), none]) (st' := [vI 0]) (M1 := x2.2) rfl ?_
      cases h
      exact Z_ret ⟨Or.inr ⟨rfl, Or.inl rfl⟩, _, rfl⟩ rfl
    · replace h := of_neg hc h
      refine Z_blk k_X11_damp 2 (pc' := 42) (lo' := [some (vR 0 21 0), none]) (st' := [vI 1]) (M1 := x2.2) rfl ?_
      cases h
      exact Z_ret ⟨Or.inr ⟨rfl, Or.inr rfl⟩, _, rfl⟩ rfl
def f_X11_damp (a1 : Int) (M : AM) : Option (Int × AM) := zlet (am_upd M 0 1 0) fun M1 => zlet (am_upd M1 0 0 0) fun M2 => if a1 = 0 then f_X11_damp_22 6 0 M2 else f_X11_damp_22 6 1 M2
theorem e_X11_damp {Y : List (Nat × Nat)} (d : Nat) (a1 : Int) (M : AM) (x : Int) (N : AM) (h : f_X11_damp a1 M = some (x, N)) : Ev Y (d + 1) m_X11_damp 0 [some (vR 0 21 0), some (vI a1)] [] M (some (vI x)) N := by
  unfold f_X11_damp at h
  obtain ⟨M1, eM1, h⟩ := of_zlet h
  refine Z_blk k_X11_damp 3 (pc' := 5) (lo' := [some (vR 0 21 0), some (vI a1)]) (st' := []) (M1 := M1) (by rw [eM1]; rfl) ?_
  obtain ⟨M2, eM2, h⟩ := of_zlet h
  refine Z_blk k_X11_damp 3 (pc' := 10) (lo' := [some (vR 0 21 0), some (vI a1)]) (st' := []) (M1 := M2) (by rw [eM2]; rfl) ?_
  refine Z_blk k_X11_damp 3 (pc' := 14) (lo' := [some (vR 0 21 0), some (vI a1)]) (st' := [vI a1, vI 6, vR 0 21 0]) (M1 := M2) rfl ?_
  refine Z_if k_X11_damp rfl 21 rfl (fun hc => ?_) (fun hc => ?_)
  · replace h := of_pos hc h
    refine Z_blk k_X11_damp 1 (pc' := 22) (lo' := [some (vR 0 21 0), some (vI a1)]) (st' := [vI 0, vI 6, vR 0 21 0]) (M1 := M2) rfl ?_
    refine Z_mask [true, false] (lo0 := [some (vR 0 21 0), none]) rfl ?_
    exact e_X11_damp_22 d 6 0 M2 _ _ h
  · replace h := of_neg hc h
    refine Z_blk k_X11_damp 2 (pc' := 22) (lo' := [some (vR 0 21 0), some (vI a1)]) (st' := [vI 1, vI 6, vR 0 21 0]) (M1 := M2) rfl ?_
    refine Z_mask [true, false] (lo0 := [some (vR 0 21 0), none]) rfl ?_
    exact e_X11_damp_22 d 6 1 M2 _ _ h
def f_X11_cut_ (a1 : Int) (M : AM) : Option (Int × AM) := zlet (am_upd M 0 1 0) fun M1 => zlet (am_upd M1 0 0 0) fun M2 => (f_X11_isWireAt a1 M2).bind fun x3 => if ¬ x3.1 = 0 then ((f_X11_becomes (o_add 37 a1) 0 x3.2).bind fun x4 => if x4.1 = 0 then ((f_X11_refuse 9 x4.2).bind fun x5 => some (x5.1, x5.2)) else (if 0 ≤ o_add 27 a1 ∧ o_add 27 a1 < 1775 then some (x4.2 5 (Int.toNat (o_add 27 a1)), x4.2) else none)) else ((f_X11_refuse 2 x3.2).bind fun x7 => some (x7.1, x7.2))
theorem e_X11_cut_ {Y : List (Nat × Nat)} (d : Nat) (a1 : Int) (M : AM) (x : Int) (N : AM) (h : f_X11_cut_ a1 M = some (x, N)) : Ev Y (d + 2) m_X11_cut_ 0 [some (vR 0 21 0), some (vI a1)] [] M (some (vI x)) N := by
  unfold f_X11_cut_ at h
  obtain ⟨M1, eM1, h⟩ := of_zlet h
  refine Z_blk k_X11_cut_ 3 (pc' := 5) (lo' := [some (vR 0 21 0), some (vI a1)]) (st' := []) (M1 := M1) (by rw [eM1]; rfl) ?_
  obtain ⟨M2, eM2, h⟩ := of_zlet h
  refine Z_blk k_X11_cut_ 3 (pc' := 10) (lo' := [some (vR 0 21 0), some (vI a1)]) (st' := []) (M1 := M2) (by rw [eM2]; rfl) ?_
  refine Z_blk k_X11_cut_ 2 (pc' := 12) (lo' := [some (vR 0 21 0), some (vI a1)]) (st' := [vI a1, vR 0 21 0]) (M1 := M2) rfl ?_
  obtain ⟨x3, hx3, h⟩ := Option.bind_eq_some_iff.mp h
  refine Z_callV8 k_X11_cut_ k_X11_isWireAt rfl rfl (l_11_338) (ci := 11) rfl [vI a1] [] rfl rfl (Nat.le_of_ble_eq_true rfl) (Nat.le_of_ble_eq_true rfl) (e_X11_isWireAt (d + 0) a1 M2 _ _ hx3) ?_
  refine Z_if k_X11_cut_ rfl 24 rfl (fun hc => ?_) (fun hc => ?_)
  · replace h := of_pos hc h
    refine Z_blk k_X11_cut_ 5 (pc' := 30) (lo' := [some (vR 0 21 0), some (vI a1)]) (st' := [vI 0, vI (o_add 37 a1), vR 0 21 0]) (M1 := x3.2) rfl ?_
    obtain ⟨x4, hx4, h⟩ := Option.bind_eq_some_iff.mp h
    refine Z_callV8 k_X11_cut_ k_X11_becomes rfl rfl (l_11_364) (ci := 11) rfl [vI (o_add 37 a1), vI 0] [] rfl rfl (Nat.le_of_ble_eq_true rfl) (Nat.le_of_ble_eq_true rfl) (e_X11_becomes (d + 1) (o_add 37 a1) 0 x3.2 _ _ hx4) ?_
    refine Z_if k_X11_cut_ rfl 48 rfl (fun hc => ?_) (fun hc => ?_)
    · replace h := of_pos hc h
      refine Z_blk k_X11_cut_ 2 (pc' := 51) (lo' := [some (vR 0 21 0), some (vI a1)]) (st' := [vI 9, vR 0 21 0]) (M1 := x4.2) rfl ?_
      obtain ⟨x5, hx5, h⟩ := Option.bind_eq_some_iff.mp h
      refine Z_callV8 k_X11_cut_ k_X11_refuse rfl rfl (l_11_326) (ci := 11) rfl [vI 9] [] rfl rfl (Nat.le_of_ble_eq_true rfl) (Nat.le_of_ble_eq_true rfl) (e_X11_refuse (d + 1) 9 x4.2 _ _ hx5) ?_
      cases h
      exact Z_ret ⟨Or.inl rfl, _, rfl⟩ rfl
    · replace h := of_neg hc h
      refine Z_blk k_X11_cut_ 5 (pc' := 44) (lo' := [some (vR 0 21 0), some (vI a1)]) (st' := [vI (o_add 27 a1), vR 5 0 1775]) (M1 := x4.2) rfl ?_
      obtain ⟨hc6, h⟩ := of_grd h
      refine Z_one k_X11_cut_ rfl (pc' := 45) (lo' := [some (vR 0 21 0), some (vI a1)]) (st' := [vI (x4.2 5 (Int.toNat (o_add 27 a1)))]) (M1 := x4.2) (if_pos hc6) ?_
      refine Z_blk k_X11_cut_ 1 (pc' := 54) (lo' := [some (vR 0 21 0), some (vI a1)]) (st' := [vI (x4.2 5 (Int.toNat (o_add 27 a1)))]) (M1 := x4.2) rfl ?_
      cases h
      exact Z_ret ⟨Or.inl rfl, _, rfl⟩ rfl
  · replace h := of_neg hc h
    refine Z_blk k_X11_cut_ 2 (pc' := 20) (lo' := [some (vR 0 21 0), some (vI a1)]) (st' := [vI 2, vR 0 21 0]) (M1 := x3.2) rfl ?_
    obtain ⟨x7, hx7, h⟩ := Option.bind_eq_some_iff.mp h
    refine Z_callV8 k_X11_cut_ k_X11_refuse rfl rfl (l_11_326) (ci := 11) rfl [vI 2] [] rfl rfl (Nat.le_of_ble_eq_true rfl) (Nat.le_of_ble_eq_true rfl) (e_X11_refuse (d + 1) 2 x3.2 _ _ hx7) ?_
    cases h
    exact Z_ret ⟨Or.inl rfl, _, rfl⟩ rfl
def f_X11_canMend (a1 : Int) (M : AM) : Option (Int × AM) := if 0 ≤ o_add 37 a1 ∧ o_add 37 a1 < 1775 then (if M 5 (Int.toNat (o_add 37 a1)) = 0 then some (1, M) else (if 0 ≤ o_add 27 a1 ∧ o_add 27 a1 < 1775 then (if M 5 (Int.toNat (o_add 27 a1)) ≤ 0 then some (0, M) else some (1, M)) else none)) else none
theorem e_X11_canMend {Y : List (Nat × Nat)} (d : Nat) (a1 : Int) (M : AM) (x : Int) (N : AM) (h : f_X11_canMend a1 M = some (x, N)) : Ev Y (d + 0) m_X11_canMend 0 [some (vR 0 21 0), some (vI a1)] [] M (some (vI x)) N := by
  unfold f_X11_canMend at h
  refine Z_blk k_X11_canMend 5 (pc' := 8) (lo' := [some (vR 0 21 0), some (vI a1)]) (st' := [vI (o_add 37 a1), vR 5 0 1775]) (M1 := M) rfl ?_
  obtain ⟨hc1, h⟩ := of_grd h
  refine Z_one k_X11_canMend rfl (pc' := 9) (lo' := [some (vR 0 21 0), some (vI a1)]) (st' := [vI (M 5 (Int.toNat (o_add 37 a1)))]) (M1 := M) (if_pos hc1) ?_
  refine Z_if k_X11_canMend rfl 24 rfl (fun hc => ?_) (fun hc => ?_)
  · replace h := of_pos hc h
    refine Z_blk k_X11_canMend 2 (pc' := 29) (lo' := [some (vR 0 21 0), some (vI a1)]) (st' := [vI 1]) (M1 := M) rfl ?_
    cases h
    exact Z_ret ⟨Or.inr ⟨rfl, Or.inr rfl⟩, _, rfl⟩ rfl
  · replace h := of_neg hc h
    refine Z_blk k_X11_canMend 5 (pc' := 20) (lo' := [some (vR 0 21 0), some (vI a1)]) (st' := [vI (o_add 27 a1), vR 5 0 1775]) (M1 := M) rfl ?_
    obtain ⟨hc2, h⟩ := of_grd h
    refine Z_one k_X11_canMend rfl (pc' := 21) (lo' := [some (vR 0 21 0), some (vI a1)]) (st' := [vI (M 5 (Int.toNat (o_add 27 a1)))]) (M1 := M) (if_pos hc2) ?_
    refine Z_if k_X11_canMend rfl 28 rfl (fun hc => ?_) (fun hc => ?_)
    · replace h := of_pos hc h
      refine Z_blk k_X11_canMend 1 (pc' := 29) (lo' := [some (vR 0 21 0), some (vI a1)]) (st' := [vI 0]) (M1 := M) rfl ?_
      cases h
      exact Z_ret ⟨Or.inr ⟨rfl, Or.inl rfl⟩, _, rfl⟩ rfl
    · replace h := of_neg hc h
      refine Z_blk k_X11_canMend 2 (pc' := 29) (lo' := [some (vR 0 21 0), some (vI a1)]) (st' := [vI 1]) (M1 := M) rfl ?_
      cases h
      exact Z_ret ⟨Or.inr ⟨rfl, Or.inr rfl⟩, _, rfl⟩ rfl
def f_X11_repairs (a1 : Int) (M : AM) : Option (Int × AM) := if 0 ≤ o_add 27 a1 ∧ o_add 27 a1 < 1775 then (if 0 ≤ o_add 37 a1 ∧ o_add 37 a1 < 1775 then (zlet (am_upd M 5 (Int.toNat (o_add 37 a1)) 1) fun M3 => zlet (am_upd M3 5 (Int.toNat (o_add 27 a1)) 0) fun M4 => some (M 5 (Int.toNat (o_add 27 a1)), M4)) else none) else none
theorem e_X11_repairs {Y : List (Nat × Nat)} (d : Nat) (a1 : Int) (M : AM) (x : Int) (N : AM) (h : f_X11_repairs a1 M = some (x, N)) : Ev Y (d + 0) m_X11_repairs 0 [some (vR 0 21 0), some (vI a1), none] [] M (some (vI x)) N := by
  unfold f_X11_repairs at h
  refine Z_blk k_X11_repairs 5 (pc' := 8) (lo' := [some (vR 0 21 0), some (vI a1), none]) (st' := [vI (o_add 27 a1), vR 5 0 1775]) (M1 := M) rfl ?_
  obtain ⟨hc1, h⟩ := of_grd h
  refine Z_one k_X11_repairs rfl (pc' := 9) (lo' := [some (vR 0 21 0), some (vI a1), none]) (st' := [vI (M 5 (Int.toNat (o_add 27 a1)))]) (M1 := M) (if_pos hc1) ?_
  refine Z_blk k_X11_repairs 7 (pc' := 19) (lo' := [some (vR 0 21 0), some (vI a1), some (vI (M 5 (Int.toNat (o_add 27 a1))))]) (st' := [vI 1, vI (o_add 37 a1), vR 5 0 1775]) (M1 := M) rfl ?_
  obtain ⟨hc2, h⟩ := of_grd h
  obtain ⟨M3, eM3, h⟩ := of_zlet h
  refine Z_one k_X11_repairs rfl (pc' := 20) (lo' := [some (vR 0 21 0), some (vI a1), some (vI (M 5 (Int.toNat (o_add 27 a1))))]) (st' := []) (M1 := M3) (by rw [eM3]; exact if_pos hc2) ?_
  refine Z_blk k_X11_repairs 6 (pc' := 29) (lo' := [some (vR 0 21 0), some (vI a1), some (vI (M 5 (Int.toNat (o_add 27 a1))))]) (st' := [vI 0, vI (o_add 27 a1), vR 5 0 1775]) (M1 := M3) rfl ?_
  obtain ⟨M4, eM4, h⟩ := of_zlet h
  refine Z_one k_X11_repairs rfl (pc' := 30) (lo' := [some (vR 0 21 0), some (vI a1), some (vI (M 5 (Int.toNat (o_add 27 a1))))]) (st' := []) (M1 := M4) (by rw [eM4]; exact if_pos hc1) ?_
  refine Z_blk k_X11_repairs 1 (pc' := 31) (lo' := [some (vR 0 21 0), some (vI a1), some (vI (M 5 (Int.toNat (o_add 27 a1))))]) (st' := [vI (M 5 (Int.toNat (o_add 27 a1)))]) (M1 := M4) rfl ?_
  cases h
  exact Z_ret ⟨Or.inl rfl, _, rfl⟩ rfl
theorem l_11_367 : zhas 8016 (Jvm.Cond.methodLink "BellPullHouseModel" 367 yX11_canMend) = true := by decide +kernel
theorem l_11_370 : zhas 8020 (Jvm.Cond.methodLink "BellPullHouseModel" 370 yX11_repairs) = true := by decide +kernel
def f_X11_mend (a1 : Int) (M : AM) : Option (Int × AM) := zlet (am_upd M 0 1 0) fun M1 => zlet (am_upd M1 0 0 0) fun M2 => (f_X11_isWireAt a1 M2).bind fun x3 => if ¬ x3.1 = 0 then ((f_X11_canMend a1 x3.2).bind fun x4 => if x4.1 = 0 then ((f_X11_refuse 9 x4.2).bind fun x5 => some (x5.1, x5.2)) else ((f_X11_repairs a1 x4.2).bind fun x6 => some (x6.1, x6.2))) else ((f_X11_refuse 2 x3.2).bind fun x7 => some (x7.1, x7.2))
theorem e_X11_mend {Y : List (Nat × Nat)} (d : Nat) (a1 : Int) (M : AM) (x : Int) (N : AM) (h : f_X11_mend a1 M = some (x, N)) : Ev Y (d + 2) m_X11_mend 0 [some (vR 0 21 0), some (vI a1)] [] M (some (vI x)) N := by
  unfold f_X11_mend at h
  obtain ⟨M1, eM1, h⟩ := of_zlet h
  refine Z_blk k_X11_mend 3 (pc' := 5) (lo' := [some (vR 0 21 0), some (vI a1)]) (st' := []) (M1 := M1) (by rw [eM1]; rfl) ?_
  obtain ⟨M2, eM2, h⟩ := of_zlet h
  refine Z_blk k_X11_mend 3 (pc' := 10) (lo' := [some (vR 0 21 0), some (vI a1)]) (st' := []) (M1 := M2) (by rw [eM2]; rfl) ?_
  refine Z_blk k_X11_mend 2 (pc' := 12) (lo' := [some (vR 0 21 0), some (vI a1)]) (st' := [vI a1, vR 0 21 0]) (M1 := M2) rfl ?_
  obtain ⟨x3, hx3, h⟩ := Option.bind_eq_some_iff.mp h
  refine Z_callV8 k_X11_mend k_X11_isWireAt rfl rfl (l_11_338) (ci := 11) rfl [vI a1] [] rfl rfl (Nat.le_of_ble_eq_true rfl) (Nat.le_of_ble_eq_true rfl) (e_X11_isWireAt (d + 0) a1 M2 _ _ hx3) ?_
  refine Z_if k_X11_mend rfl 24 rfl (fun hc => ?_) (fun hc => ?_)
  · replace h := of_pos hc h
    refine Z_blk k_X11_mend 2 (pc' := 26) (lo' := [some (vR 0 21 0), some (vI a1)]) (st' := [vI a1, vR 0 21 0]) (M1 := x3.2) rfl ?_
    obtain ⟨x4, hx4, h⟩ := Option.bind_eq_some_iff.mp h
    refine Z_callV8 k_X11_mend k_X11_canMend rfl rfl (l_11_367) (ci := 11) rfl [vI a1] [] rfl rfl (Nat.le_of_ble_eq_true rfl) (Nat.le_of_ble_eq_true rfl) (e_X11_canMend (d + 1) a1 x3.2 _ _ hx4) ?_
    refine Z_if k_X11_mend rfl 40 rfl (fun hc => ?_) (fun hc => ?_)
    · replace h := of_pos hc h
      refine Z_blk k_X11_mend 2 (pc' := 43) (lo' := [some (vR 0 21 0), some (vI a1)]) (st' := [vI 9, vR 0 21 0]) (M1 := x4.2) rfl ?_
      obtain ⟨x5, hx5, h⟩ := Option.bind_eq_some_iff.mp h
      refine Z_callV8 k_X11_mend k_X11_refuse rfl rfl (l_11_326) (ci := 11) rfl [vI 9] [] rfl rfl (Nat.le_of_ble_eq_true rfl) (Nat.le_of_ble_eq_true rfl) (e_X11_refuse (d + 1) 9 x4.2 _ _ hx5) ?_
      cases h
      exact Z_ret ⟨Or.inl rfl, _, rfl⟩ rfl
    · replace h := of_neg hc h
      refine Z_blk k_X11_mend 2 (pc' := 34) (lo' := [some (vR 0 21 0), some (vI a1)]) (st' := [vI a1, vR 0 21 0]) (M1 := x4.2) rfl ?_
      obtain ⟨x6, hx6, h⟩ := Option.bind_eq_some_iff.mp h
      refine Z_callV8 k_X11_mend k_X11_repairs rfl rfl (l_11_370) (ci := 11) rfl [vI a1] [] rfl rfl (Nat.le_of_ble_eq_true rfl) (Nat.le_of_ble_eq_true rfl) (e_X11_repairs (d + 1) a1 x4.2 _ _ hx6) ?_
      refine Z_blk k_X11_mend 1 (pc' := 46) (lo' := [some (vR 0 21 0), some (vI a1)]) (st' := [vI x6.1]) (M1 := x6.2) rfl ?_
      cases h
      exact Z_ret ⟨Or.inl rfl, _, rfl⟩ rfl
  · replace h := of_neg hc h
    refine Z_blk k_X11_mend 2 (pc' := 20) (lo' := [some (vR 0 21 0), some (vI a1)]) (st' := [vI 2, vR 0 21 0]) (M1 := x3.2) rfl ?_
    obtain ⟨x7, hx7, h⟩ := Option.bind_eq_some_iff.mp h
    refine Z_callV8 k_X11_mend k_X11_refuse rfl rfl (l_11_326) (ci := 11) rfl [vI 2] [] rfl rfl (Nat.le_of_ble_eq_true rfl) (Nat.le_of_ble_eq_true rfl) (e_X11_refuse (d + 1) 2 x3.2 _ _ hx7) ?_
    cases h
    exact Z_ret ⟨Or.inl rfl, _, rfl⟩ rfl
def f_X11_stretch (a1 : Int) (a2 : Int) (M : AM) : Option (Int × AM) := zlet (am_upd M 0 1 0) fun M1 => zlet (am_upd M1 0 0 0) fun M2 => (f_X11_isWireAt a1 M2).bind fun x3 => if ¬ x3.1 = 0 then ((f_X11_isIn a2 0 9 x3.2).bind fun x4 => if ¬ x4.1 = 0 then (if 0 ≤ o_add 27 a1 ∧ o_add 27 a1 < 1775 then (zlet (am_upd x4.2 5 (Int.toNat (o_add 27 a1)) a2) fun M6 => some (1, M6)) else none) else ((f_X11_no 5 x4.2).bind fun x7 => if x7.1 = 0 ∨ x7.1 = 1 then some (x7.1, x7.2) else none)) else ((f_X11_no 2 x3.2).bind fun x9 => if x9.1 = 0 ∨ x9.1 = 1 then some (x9.1, x9.2) else none)
theorem e_X11_stretch {Y : List (Nat × Nat)} (d : Nat) (a1 : Int) (a2 : Int) (M : AM) (x : Int) (N : AM) (h : f_X11_stretch a1 a2 M = some (x, N)) : Ev Y (d + 2) m_X11_stretch 0 [some (vR 0 21 0), some (vI a1), some (vI a2)] [] M (some (vI x)) N := by
  unfold f_X11_stretch at h
  obtain ⟨M1, eM1, h⟩ := of_zlet h
  refine Z_blk k_X11_stretch 3 (pc' := 5) (lo' := [some (vR 0 21 0), some (vI a1), some (vI a2)]) (st' := []) (M1 := M1) (by rw [eM1]; rfl) ?_
  obtain ⟨M2, eM2, h⟩ := of_zlet h
  refine Z_blk k_X11_stretch 3 (pc' := 10) (lo' := [some (vR 0 21 0), some (vI a1), some (vI a2)]) (st' := []) (M1 := M2) (by rw [eM2]; rfl) ?_
  refine Z_blk k_X11_stretch 2 (pc' := 12) (lo' := [some (vR 0 21 0), some (vI a1), some (vI a2)]) (st' := [vI a1, vR 0 21 0]) (M1 := M2) rfl ?_
  obtain ⟨x3, hx3, h⟩ := Option.bind_eq_some_iff.mp h
  refine Z_callV8 k_X11_stretch k_X11_isWireAt rfl rfl (l_11_338) (ci := 11) rfl [vI a1] [] rfl rfl (Nat.le_of_ble_eq_true rfl) (Nat.le_of_ble_eq_true rfl) (e_X11_isWireAt (d + 0) a1 M2 _ _ hx3) ?_
  refine Z_if k_X11_stretch rfl 24 rfl (fun hc => ?_) (fun hc => ?_)
  · replace h := of_pos hc h
    refine Z_blk k_X11_stretch 4 (pc' := 30) (lo' := [some (vR 0 21 0), some (vI a1), some (vI a2)]) (st' := [vL 9, vL 0, vL a2]) (M1 := x3.2) rfl ?_
    obtain ⟨x4, hx4, h⟩ := Option.bind_eq_some_iff.mp h
    refine Z_callS8 k_X11_stretch k_X11_isIn rfl rfl (l_11_104) [vL a2, vL 0, vL 9] [] rfl rfl (Nat.le_of_ble_eq_true rfl) (Nat.le_of_ble_eq_true rfl) (e_X11_isIn (d + 1) a2 0 9 x3.2 _ _ hx4) ?_
    refine Z_if k_X11_stretch rfl 42 rfl (fun hc => ?_) (fun hc => ?_)
    · replace h := of_pos hc h
      refine Z_blk k_X11_stretch 6 (pc' := 51) (lo' := [some (vR 0 21 0), some (vI a1), some (vI a2)]) (st' := [vI a2, vI (o_add 27 a1), vR 5 0 1775]) (M1 := x4.2) rfl ?_
      obtain ⟨hc5, h⟩ := of_grd h
      obtain ⟨M6, eM6, h⟩ := of_zlet h
      refine Z_one k_X11_stretch rfl (pc' := 52) (lo' := [some (vR 0 21 0), some (vI a1), some (vI a2)]) (st' := []) (M1 := M6) (by rw [eM6]; exact if_pos hc5) ?_
      refine Z_blk k_X11_stretch 1 (pc' := 53) (lo' := [some (vR 0 21 0), some (vI a1), some (vI a2)]) (st' := [vI 1]) (M1 := M6) rfl ?_
      cases h
      exact Z_ret ⟨Or.inr ⟨rfl, Or.inr rfl⟩, _, rfl⟩ rfl
    · replace h := of_neg hc h
      refine Z_blk k_X11_stretch 2 (pc' := 38) (lo' := [some (vR 0 21 0), some (vI a1), some (vI a2)]) (st' := [vI 5, vR 0 21 0]) (M1 := x4.2) rfl ?_
      obtain ⟨x7, hx7, h⟩ := Option.bind_eq_some_iff.mp h
      refine Z_callV8 k_X11_stretch k_X11_no rfl rfl (l_11_84) (ci := 11) rfl [vI 5] [] rfl rfl (Nat.le_of_ble_eq_true rfl) (Nat.le_of_ble_eq_true rfl) (e_X11_no (d + 1) 5 x4.2 _ _ hx7) ?_
      obtain ⟨hc8, h⟩ := of_grd h
      cases h
      exact Z_ret ⟨Or.inr ⟨rfl, hc8⟩, _, rfl⟩ rfl
  · replace h := of_neg hc h
    refine Z_blk k_X11_stretch 2 (pc' := 20) (lo' := [some (vR 0 21 0), some (vI a1), some (vI a2)]) (st' := [vI 2, vR 0 21 0]) (M1 := x3.2) rfl ?_
    obtain ⟨x9, hx9, h⟩ := Option.bind_eq_some_iff.mp h
    refine Z_callV8 k_X11_stretch k_X11_no rfl rfl (l_11_84) (ci := 11) rfl [vI 2] [] rfl rfl (Nat.le_of_ble_eq_true rfl) (Nat.le_of_ble_eq_true rfl) (e_X11_no (d + 1) 2 x3.2 _ _ hx9) ?_
    obtain ⟨hc10, h⟩ := of_grd h
    cases h
    exact Z_ret ⟨Or.inr ⟨rfl, hc10⟩, _, rfl⟩ rfl
theorem l_11_375 : zhas 8033 (Jvm.Cond.methodLink "BellPullHouseModel" 375 yX11_isRoomAt) = true := by decide +kernel
def f_X11_string_26 (M : AM) : Option (Int × AM) := (f_X11_refuse 2 M).bind fun x1 => some (x1.1, x1.2)
theorem e_X11_string_26 {Y : List (Nat × Nat)} (d : Nat) (M : AM) (x : Int) (N : AM) (h : f_X11_string_26 M = some (x, N)) : Ev Y (d + 2) m_X11_string 26 [some (vR 0 21 0), none, none, none] [] M (some (vI x)) N := by
  unfold f_X11_string_26 at h
  refine Z_blk k_X11_string 2 (pc' := 28) (lo' := [some (vR 0 21 0), none, none, none]) (st' := [vI 2, vR 0 21 0]) (M1 := M) rfl ?_
  obtain ⟨x1, hx1, h⟩ := Option.bind_eq_some_iff.mp h
  refine Z_callV8 k_X11_string k_X11_refuse rfl rfl (l_11_326) (ci := 11) rfl [vI 2] [] rfl rfl (Nat.le_of_ble_eq_true rfl) (Nat.le_of_ble_eq_true rfl) (e_X11_refuse (d + 1) 2 M _ _ hx1) ?_
  cases h
  exact Z_ret ⟨Or.inl rfl, _, rfl⟩ rfl
def f_X11_string (a1 : Int) (a2 : Int) (M : AM) : Option (Int × AM) := zlet (am_upd M 0 1 0) fun M1 => zlet (am_upd M1 0 0 0) fun M2 => (f_X11_isRoomAt a1 M2).bind fun x3 => if x3.1 = 0 then f_X11_string_26 x3.2 else ((f_X11_isRoomAt a2 x3.2).bind fun x4 => if ¬ x4.1 = 0 then (if ¬ a1 = a2 then (if ¬ x4.2 5 (Int.toNat 1) = 10 then (if 0 ≤ o_add 8 (x4.2 5 (Int.toNat 1)) ∧ o_add 8 (x4.2 5 (Int.toNat 1)) < 120 then (zlet (am_upd x4.2 8 (Int.toNat (o_add 8 (x4.2 5 (Int.toNat 1)))) 0) fun M6 => (f_X11_strings 0 (x4.2 5 (Int.toNat 1)) a1 a2 0 M6).bind fun x7 => some (x4.2 5 (Int.toNat 1), x7)) else none) else ((f_X11_refuse 7 x4.2).bind fun x8 => some (x8.1, x8.2))) else ((f_X11_refuse 5 x4.2).bind fun x9 => some (x9.1, x9.2))) else f_X11_string_26 x4.2)
theorem e_X11_string {Y : List (Nat × Nat)} (d : Nat) (a1 : Int) (a2 : Int) (M : AM) (x : Int) (N : AM) (h : f_X11_string a1 a2 M = some (x, N)) : Ev Y (d + 2) m_X11_string 0 [some (vR 0 21 0), some (vI a1), some (vI a2), none] [] M (some (vI x)) N := by
  unfold f_X11_string at h
  obtain ⟨M1, eM1, h⟩ := of_zlet h
  refine Z_blk k_X11_string 3 (pc' := 5) (lo' := [some (vR 0 21 0), some (vI a1), some (vI a2), none]) (st' := []) (M1 := M1) (by rw [eM1]; rfl) ?_
  obtain ⟨M2, eM2, h⟩ := of_zlet h
  refine Z_blk k_X11_string 3 (pc' := 10) (lo' := [some (vR 0 21 0), some (vI a1), some (vI a2), none]) (st' := []) (M1 := M2) (by rw [eM2]; rfl) ?_
  refine Z_blk k_X11_string 2 (pc' := 12) (lo' := [some (vR 0 21 0), some (vI a1), some (vI a2), none]) (st' := [vI a1, vR 0 21 0]) (M1 := M2) rfl ?_
  obtain ⟨x3, hx3, h⟩ := Option.bind_eq_some_iff.mp h
  refine Z_callV8 k_X11_string k_X11_isRoomAt rfl rfl (l_11_375) (ci := 11) rfl [vI a1] [] rfl rfl (Nat.le_of_ble_eq_true rfl) (Nat.le_of_ble_eq_true rfl) (e_X11_isRoomAt (d + 0) a1 M2 _ _ hx3) ?_
  refine Z_if k_X11_string rfl 26 rfl (fun hc => ?_) (fun hc => ?_)
  · replace h := of_pos hc h
    refine Z_mask [true, false, false, false] (lo0 := [some (vR 0 21 0), none, none, none]) rfl ?_
    exact e_X11_string_26 d x3.2 _ _ h
  · replace h := of_neg hc h
    refine Z_blk k_X11_string 2 (pc' := 20) (lo' := [some (vR 0 21 0), some (vI a1), some (vI a2), none]) (st' := [vI a2, vR 0 21 0]) (M1 := x3.2) rfl ?_
    obtain ⟨x4, hx4, h⟩ := Option.bind_eq_some_iff.mp h
    refine Z_callV8 k_X11_string k_X11_isRoomAt rfl rfl (l_11_375) (ci := 11) rfl [vI a2] [] rfl rfl (Nat.le_of_ble_eq_true rfl) (Nat.le_of_ble_eq_true rfl) (e_X11_isRoomAt (d + 0) a2 x3.2 _ _ hx4) ?_
    refine Z_if k_X11_string rfl 32 rfl (fun hc => ?_) (fun hc => ?_)
    · replace h := of_pos hc h
      refine Z_blk k_X11_string 2 (pc' := 34) (lo' := [some (vR 0 21 0), some (vI a1), some (vI a2), none]) (st' := [vI a2, vI a1]) (M1 := x4.2) rfl ?_
      refine Z_icmp k_X11_string rfl 43 rfl (fun hc => ?_) (fun hc => ?_)
      · replace h := of_pos hc h
        refine Z_blk k_X11_string 3 (pc' := 48) (lo' := [some (vR 0 21 0), some (vI a1), some (vI a2), none]) (st' := [vI 1, vR 5 0 1775]) (M1 := x4.2) rfl ?_
        refine Z_one k_X11_string rfl (pc' := 49) (lo' := [some (vR 0 21 0), some (vI a1), some (vI a2), none]) (st' := [vI (x4.2 5 (Int.toNat 1))]) (M1 := x4.2) (rfl) ?_
        refine Z_blk k_X11_string 3 (pc' := 53) (lo' := [some (vR 0 21 0), some (vI a1), some (vI a2), some (vI (x4.2 5 (Int.toNat 1)))]) (st' := [vI 10, vI (x4.2 5 (Int.toNat 1))]) (M1 := x4.2) rfl ?_
        refine Z_icmp k_X11_string rfl 63 rfl (fun hc => ?_) (fun hc => ?_)
        · replace h := of_pos hc h
          refine Z_blk k_X11_string 6 (pc' := 72) (lo' := [some (vR 0 21 0), some (vI a1), some (vI a2), some (vI (x4.2 5 (Int.toNat 1)))]) (st' := [vL 0, vI (o_add 8 (x4.2 5 (Int.toNat 1))), vR 8 1 120]) (M1 := x4.2) rfl ?_
          obtain ⟨hc5, h⟩ := of_grd h
          obtain ⟨M6, eM6, h⟩ := of_zlet h
          refine Z_one k_X11_string rfl (pc' := 73) (lo' := [some (vR 0 21 0), some (vI a1), some (vI a2), some (vI (x4.2 5 (Int.toNat 1)))]) (st' := []) (M1 := M6) (by rw [eM6]; exact if_pos hc5) ?_
          refine Z_blk k_X11_string 6 (pc' := 79) (lo' := [some (vR 0 21 0), some (vI a1), some (vI a2), some (vI (x4.2 5 (Int.toNat 1)))]) (st' := [vI 0, vI a2, vI a1, vI (x4.2 5 (Int.toNat 1)), vI 0, vR 0 21 0]) (M1 := M6) rfl ?_
          obtain ⟨x7, hx7, h⟩ := Option.bind_eq_some_iff.mp h
          refine Z_callV8 k_X11_string k_X11_strings rfl rfl (l_11_261) (ci := 11) rfl [vI 0, vI (x4.2 5 (Int.toNat 1)), vI a1, vI a2, vI 0] [] rfl rfl (Nat.le_of_ble_eq_true rfl) (Nat.le_of_ble_eq_true rfl) (e_X11_strings (d + 1) 0 (x4.2 5 (Int.toNat 1)) a1 a2 0 M6 _ hx7) ?_
          refine Z_blk k_X11_string 1 (pc' := 83) (lo' := [some (vR 0 21 0), some (vI a1), some (vI a2), some (vI (x4.2 5 (Int.toNat 1)))]) (st' := [vI (x4.2 5 (Int.toNat 1))]) (M1 := x7) rfl ?_
          cases h
          exact Z_ret ⟨Or.inl rfl, _, rfl⟩ rfl
        · replace h := of_neg hc h
          refine Z_blk k_X11_string 2 (pc' := 59) (lo' := [some (vR 0 21 0), some (vI a1), some (vI a2), some (vI (x4.2 5 (Int.toNat 1)))]) (st' := [vI 7, vR 0 21 0]) (M1 := x4.2) rfl ?_
          obtain ⟨x8, hx8, h⟩ := Option.bind_eq_some_iff.mp h
          refine Z_callV8 k_X11_string k_X11_refuse rfl rfl (l_11_326) (ci := 11) rfl [vI 7] [] rfl rfl (Nat.le_of_ble_eq_true rfl) (Nat.le_of_ble_eq_true rfl) (e_X11_refuse (d + 1) 7 x4.2 _ _ hx8) ?_
          cases h
          exact Z_ret ⟨Or.inl rfl, _, rfl⟩ rfl
      · replace h := of_neg hc h
        refine Z_blk k_X11_string 2 (pc' := 39) (lo' := [some (vR 0 21 0), some (vI a1), some (vI a2), none]) (st' := [vI 5, vR 0 21 0]) (M1 := x4.2) rfl ?_
        obtain ⟨x9, hx9, h⟩ := Option.bind_eq_some_iff.mp h
        refine Z_callV8 k_X11_string k_X11_refuse rfl rfl (l_11_326) (ci := 11) rfl [vI 5] [] rfl rfl (Nat.le_of_ble_eq_true rfl) (Nat.le_of_ble_eq_true rfl) (e_X11_refuse (d + 1) 5 x4.2 _ _ hx9) ?_
        cases h
        exact Z_ret ⟨Or.inl rfl, _, rfl⟩ rfl
    · replace h := of_neg hc h
      refine Z_mask [true, false, false, false] (lo0 := [some (vR 0 21 0), none, none, none]) rfl ?_
      exact e_X11_string_26 d x4.2 _ _ h
def f_X11_move_26 (M : AM) : Option (Int × AM) := (f_X11_refuse 2 M).bind fun x1 => some (x1.1, x1.2)
theorem e_X11_move_26 {Y : List (Nat × Nat)} (d : Nat) (M : AM) (x : Int) (N : AM) (h : f_X11_move_26 M = some (x, N)) : Ev Y (d + 2) m_X11_move 26 [some (vR 0 21 0), none, none, none, none, none] [] M (some (vI x)) N := by
  unfold f_X11_move_26 at h
  refine Z_blk k_X11_move 2 (pc' := 28) (lo' := [some (vR 0 21 0), none, none, none, none, none]) (st' := [vI 2, vR 0 21 0]) (M1 := M) rfl ?_
  obtain ⟨x1, hx1, h⟩ := Option.bind_eq_some_iff.mp h
  refine Z_callV8 k_X11_move k_X11_refuse rfl rfl (l_11_326) (ci := 11) rfl [vI 2] [] rfl rfl (Nat.le_of_ble_eq_true rfl) (Nat.le_of_ble_eq_true rfl) (e_X11_refuse (d + 1) 2 M _ _ hx1) ?_
  cases h
  exact Z_ret ⟨Or.inl rfl, _, rfl⟩ rfl
def f_X11_move (a1 : Int) (a2 : Int) (a3 : Int) (M : AM) : Option (Int × AM) := zlet (am_upd M 0 1 0) fun M1 => zlet (am_upd M1 0 0 0) fun M2 => (f_X11_isCoupleAt a1 M2).bind fun x3 => if x3.1 = 0 then f_X11_move_26 x3.2 else ((f_X11_isRoomAt a3 x3.2).bind fun x4 => if ¬ x4.1 = 0 then ((f_X11_isIn a2 0 1 x4.2).bind fun x5 => if ¬ x5.1 = 0 then (if 0 ≤ o_add (o_add 47 (o_mul 6 a2)) a1 ∧ o_add (o_add 47 (o_mul 6 a2)) a1 < 1775 then (zlet (x5.2 5 (Int.toNat (o_add (o_add 47 (o_mul 6 a2)) a1))) fun v7 => (f_X11_becomes (o_add (o_add 47 (o_mul 6 a2)) a1) a3 x5.2).bind fun x8 => if x8.1 = 0 then ((f_X11_refuse 9 x8.2).bind fun x9 => some (x9.1, x9.2)) else some (v7, x8.2)) else none) else ((f_X11_refuse 5 x5.2).bind fun x10 => some (x10.1, x10.2))) else f_X11_move_26 x4.2)
theorem e_X11_move {Y : List (Nat × Nat)} (d : Nat) (a1 : Int) (a2 : Int) (a3 : Int) (M : AM) (x : Int) (N : AM) (h : f_X11_move a1 a2 a3 M = some (x, N)) : Ev Y (d + 2) m_X11_move 0 [some (vR 0 21 0), some (vI a1), some (vI a2), some (vI a3), none, none] [] M (some (vI x)) N := by
  unfold f_X11_move at h
  obtain ⟨M1, eM1, h⟩ := of_zlet h
  refine Z_blk k_X11_move 3 (pc' := 5) (lo' := [some (vR 0 21 0), some (vI a1), some (vI a2), some (vI a3), none, none]) (st' := []) (M1 := M1) (by rw [eM1]; rfl) ?_
  obtain ⟨M2, eM2, h⟩ := of_zlet h
  refine Z_blk k_X11_move 3 (pc' := 10) (lo' := [some (vR 0 21 0), some (vI a1), some (vI a2), some (vI a3), none, none]) (st' := []) (M1 := M2) (by rw [eM2]; rfl) ?_
  refine Z_blk k_X11_move 2 (pc' := 12) (lo' := [some (vR 0 21 0), some (vI a1), some (vI a2), some (vI a3), none, none]) (st' := [vI a1, vR 0 21 0]) (M1 := M2) rfl ?_
  obtain ⟨x3, hx3, h⟩ := Option.bind_eq_some_iff.mp h
  refine Z_callV8 k_X11_move k_X11_isCoupleAt rfl rfl (l_11_341) (ci := 11) rfl [vI a1] [] rfl rfl (Nat.le_of_ble_eq_true rfl) (Nat.le_of_ble_eq_true rfl) (e_X11_isCoupleAt (d + 0) a1 M2 _ _ hx3) ?_
  refine Z_if k_X11_move rfl 26 rfl (fun hc => ?_) (fun hc => ?_)
  · replace h := of_pos hc h
    refine Z_mask [true, false, false, false, false, false] (lo0 := [some (vR 0 21 0), none, none, none, none, none]) rfl ?_
    exact e_X11_move_26 d x3.2 _ _ h
  · replace h := of_neg hc h
    refine Z_blk k_X11_move 2 (pc' := 20) (lo' := [some (vR 0 21 0), some (vI a1), some (vI a2), some (vI a3), none, none]) (st' := [vI a3, vR 0 21 0]) (M1 := x3.2) rfl ?_
    obtain ⟨x4, hx4, h⟩ := Option.bind_eq_some_iff.mp h
    refine Z_callV8 k_X11_move k_X11_isRoomAt rfl rfl (l_11_375) (ci := 11) rfl [vI a3] [] rfl rfl (Nat.le_of_ble_eq_true rfl) (Nat.le_of_ble_eq_true rfl) (e_X11_isRoomAt (d + 0) a3 x3.2 _ _ hx4) ?_
    refine Z_if k_X11_move rfl 32 rfl (fun hc => ?_) (fun hc => ?_)
    · replace h := of_pos hc h
      refine Z_blk k_X11_move 4 (pc' := 36) (lo' := [some (vR 0 21 0), some (vI a1), some (vI a2), some (vI a3), none, none]) (st' := [vL 1, vL 0, vL a2]) (M1 := x4.2) rfl ?_
      obtain ⟨x5, hx5, h⟩ := Option.bind_eq_some_iff.mp h
      refine Z_callS8 k_X11_move k_X11_isIn rfl rfl (l_11_104) [vL a2, vL 0, vL 1] [] rfl rfl (Nat.le_of_ble_eq_true rfl) (Nat.le_of_ble_eq_true rfl) (e_X11_isIn (d + 1) a2 0 1 x4.2 _ _ hx5) ?_
      refine Z_if k_X11_move rfl 48 rfl (fun hc => ?_) (fun hc => ?_)
      · replace h := of_pos hc h
        refine Z_blk k_X11_move 11 (pc' := 65) (lo' := [some (vR 0 21 0), some (vI a1), some (vI a2), some (vI a3), some (vI (o_add (o_add 47 (o_mul 6 a2)) a1)), none]) (st' := [vI (o_add (o_add 47 (o_mul 6 a2)) a1), vR 5 0 1775]) (M1 := x5.2) rfl ?_
        obtain ⟨hc6, h⟩ := of_grd h
        refine Z_one k_X11_move rfl (pc' := 66) (lo' := [some (vR 0 21 0), some (vI a1), some (vI a2), some (vI a3), some (vI (o_add (o_add 47 (o_mul 6 a2)) a1)), none]) (st' := [vI (x5.2 5 (Int.toNat (o_add (o_add 47 (o_mul 6 a2)) a1)))]) (M1 := x5.2) (if_pos hc6) ?_
        obtain ⟨v7, ev7, h⟩ := of_zlet h
        refine Z_blk k_X11_move 1 (pc' := 68) (lo' := [some (vR 0 21 0), some (vI a1), some (vI a2), some (vI a3), some (vI (o_add (o_add 47 (o_mul 6 a2)) a1)), some (vI v7)]) (st' := []) (M1 := x5.2) (by rw [ev7]; rfl) ?_
        refine Z_blk k_X11_move 3 (pc' := 72) (lo' := [some (vR 0 21 0), some (vI a1), some (vI a2), some (vI a3), some (vI (o_add (o_add 47 (o_mul 6 a2)) a1)), some (vI v7)]) (st' := [vI a3, vI (o_add (o_add 47 (o_mul 6 a2)) a1), vR 0 21 0]) (M1 := x5.2) rfl ?_
        obtain ⟨x8, hx8, h⟩ := Option.bind_eq_some_iff.mp h
        refine Z_callV8 k_X11_move k_X11_becomes rfl rfl (l_11_364) (ci := 11) rfl [vI (o_add (o_add 47 (o_mul 6 a2)) a1), vI a3] [] rfl rfl (Nat.le_of_ble_eq_true rfl) (Nat.le_of_ble_eq_true rfl) (e_X11_becomes (d + 1) (o_add (o_add 47 (o_mul 6 a2)) a1) a3 x5.2 _ _ hx8) ?_
        refine Z_if k_X11_move rfl 83 rfl (fun hc => ?_) (fun hc => ?_)
        · replace h := of_pos hc h
          refine Z_blk k_X11_move 2 (pc' := 86) (lo' := [some (vR 0 21 0), some (vI a1), some (vI a2), some (vI a3), some (vI (o_add (o_add 47 (o_mul 6 a2)) a1)), some (vI v7)]) (st' := [vI 9, vR 0 21 0]) (M1 := x8.2) rfl ?_
          obtain ⟨x9, hx9, h⟩ := Option.bind_eq_some_iff.mp h
          refine Z_callV8 k_X11_move k_X11_refuse rfl rfl (l_11_326) (ci := 11) rfl [vI 9] [] rfl rfl (Nat.le_of_ble_eq_true rfl) (Nat.le_of_ble_eq_true rfl) (e_X11_refuse (d + 1) 9 x8.2 _ _ hx9) ?_
          cases h
          exact Z_ret ⟨Or.inl rfl, _, rfl⟩ rfl
        · replace h := of_neg hc h
          refine Z_blk k_X11_move 2 (pc' := 89) (lo' := [some (vR 0 21 0), some (vI a1), some (vI a2), some (vI a3), some (vI (o_add (o_add 47 (o_mul 6 a2)) a1)), some (vI v7)]) (st' := [vI v7]) (M1 := x8.2) rfl ?_
          cases h
          exact Z_ret ⟨Or.inl rfl, _, rfl⟩ rfl
      · replace h := of_neg hc h
        refine Z_blk k_X11_move 2 (pc' := 44) (lo' := [some (vR 0 21 0), some (vI a1), some (vI a2), some (vI a3), none, none]) (st' := [vI 5, vR 0 21 0]) (M1 := x5.2) rfl ?_
        obtain ⟨x10, hx10, h⟩ := Option.bind_eq_some_iff.mp h
        refine Z_callV8 k_X11_move k_X11_refuse rfl rfl (l_11_326) (ci := 11) rfl [vI 5] [] rfl rfl (Nat.le_of_ble_eq_true rfl) (Nat.le_of_ble_eq_true rfl) (e_X11_refuse (d + 1) 5 x5.2 _ _ hx10) ?_
        cases h
        exact Z_ret ⟨Or.inl rfl, _, rfl⟩ rfl
    · replace h := of_neg hc h
      refine Z_mask [true, false, false, false, false, false] (lo0 := [some (vR 0 21 0), none, none, none, none, none]) rfl ?_
      exact e_X11_move_26 d x4.2 _ _ h
def f_X11_wed (a1 : Int) (a2 : Int) (M : AM) : Option (Int × AM) := zlet (am_upd M 0 1 0) fun M1 => zlet (am_upd M1 0 0 0) fun M2 => (f_X11_isCoupleAt a1 M2).bind fun x3 => if ¬ x3.1 = 0 then ((f_X11_isIn a2 1 9 x3.2).bind fun x4 => if ¬ x4.1 = 0 then (if 0 ≤ o_add 59 a1 ∧ o_add 59 a1 < 1775 then (zlet (am_upd x4.2 5 (Int.toNat (o_add 59 a1)) a2) fun M6 => if 0 ≤ o_add 65 a1 ∧ o_add 65 a1 < 1775 then (zlet (am_upd M6 5 (Int.toNat (o_add 65 a1)) 1) fun M8 => some (1, M8)) else none) else none) else ((f_X11_no 5 x4.2).bind fun x9 => if x9.1 = 0 ∨ x9.1 = 1 then some (x9.1, x9.2) else none)) else ((f_X11_no 2 x3.2).bind fun x11 => if x11.1 = 0 ∨ x11.1 = 1 then some (x11.1, x11.2) else none)
theorem e_X11_wed {Y : List (Nat × Nat)} (d : Nat) (a1 : Int) (a2 : Int) (M : AM) (x : Int) (N : AM) (h : f_X11_wed a1 a2 M = some (x, N)) : Ev Y (d + 2) m_X11_wed 0 [some (vR 0 21 0), some (vI a1), some (vI a2)] [] M (some (vI x)) N := by
  unfold f_X11_wed at h
  obtain ⟨M1, eM1, h⟩ := of_zlet h
  refine Z_blk k_X11_wed 3 (pc' := 5) (lo' := [some (vR 0 21 0), some (vI a1), some (vI a2)]) (st' := []) (M1 := M1) (by rw [eM1]; rfl) ?_
  obtain ⟨M2, eM2, h⟩ := of_zlet h
  refine Z_blk k_X11_wed 3 (pc' := 10) (lo' := [some (vR 0 21 0), some (vI a1), some (vI a2)]) (st' := []) (M1 := M2) (by rw [eM2]; rfl) ?_
  refine Z_blk k_X11_wed 2 (pc' := 12) (lo' := [some (vR 0 21 0), some (vI a1), some (vI a2)]) (st' := [vI a1, vR 0 21 0]) (M1 := M2) rfl ?_
  obtain ⟨x3, hx3, h⟩ := Option.bind_eq_some_iff.mp h
  refine Z_callV8 k_X11_wed k_X11_isCoupleAt rfl rfl (l_11_341) (ci := 11) rfl [vI a1] [] rfl rfl (Nat.le_of_ble_eq_true rfl) (Nat.le_of_ble_eq_true rfl) (e_X11_isCoupleAt (d + 0) a1 M2 _ _ hx3) ?_
  refine Z_if k_X11_wed rfl 24 rfl (fun hc => ?_) (fun hc => ?_)
  · replace h := of_pos hc h
    refine Z_blk k_X11_wed 4 (pc' := 30) (lo' := [some (vR 0 21 0), some (vI a1), some (vI a2)]) (st' := [vL 9, vL 1, vL a2]) (M1 := x3.2) rfl ?_
    obtain ⟨x4, hx4, h⟩ := Option.bind_eq_some_iff.mp h
    refine Z_callS8 k_X11_wed k_X11_isIn rfl rfl (l_11_104) [vL a2, vL 1, vL 9] [] rfl rfl (Nat.le_of_ble_eq_true rfl) (Nat.le_of_ble_eq_true rfl) (e_X11_isIn (d + 1) a2 1 9 x3.2 _ _ hx4) ?_
    refine Z_if k_X11_wed rfl 42 rfl (fun hc => ?_) (fun hc => ?_)
    · replace h := of_pos hc h
      refine Z_blk k_X11_wed 6 (pc' := 51) (lo' := [some (vR 0 21 0), some (vI a1), some (vI a2)]) (st' := [vI a2, vI (o_add 59 a1), vR 5 0 1775]) (M1 := x4.2) rfl ?_
      obtain ⟨hc5, h⟩ := of_grd h
      obtain ⟨M6, eM6, h⟩ := of_zlet h
      refine Z_one k_X11_wed rfl (pc' := 52) (lo' := [some (vR 0 21 0), some (vI a1), some (vI a2)]) (st' := []) (M1 := M6) (by rw [eM6]; exact if_pos hc5) ?_
      refine Z_blk k_X11_wed 6 (pc' := 61) (lo' := [some (vR 0 21 0), some (vI a1), some (vI a2)]) (st' := [vI 1, vI (o_add 65 a1), vR 5 0 1775]) (M1 := M6) rfl ?_
      obtain ⟨hc7, h⟩ := of_grd h
      obtain ⟨M8, eM8, h⟩ := of_zlet h
      refine Z_one k_X11_wed rfl (pc' := 62) (lo' := [some (vR 0 21 0), some (vI a1), some (vI a2)]) (st' := []) (M1 := M8) (by rw [eM8]; exact if_pos hc7) ?_
      refine Z_blk k_X11_wed 1 (pc' := 63) (lo' := [some (vR 0 21 0), some (vI a1), some (vI a2)]) (st' := [vI 1]) (M1 := M8) rfl ?_
      cases h
      exact Z_ret ⟨Or.inr ⟨rfl, Or.inr rfl⟩, _, rfl⟩ rfl
    · replace h := of_neg hc h
      refine Z_blk k_X11_wed 2 (pc' := 38) (lo' := [some (vR 0 21 0), some (vI a1), some (vI a2)]) (st' := [vI 5, vR 0 21 0]) (M1 := x4.2) rfl ?_
      obtain ⟨x9, hx9, h⟩ := Option.bind_eq_some_iff.mp h
      refine Z_callV8 k_X11_wed k_X11_no rfl rfl (l_11_84) (ci := 11) rfl [vI 5] [] rfl rfl (Nat.le_of_ble_eq_true rfl) (Nat.le_of_ble_eq_true rfl) (e_X11_no (d + 1) 5 x4.2 _ _ hx9) ?_
      obtain ⟨hc10, h⟩ := of_grd h
      cases h
      exact Z_ret ⟨Or.inr ⟨rfl, hc10⟩, _, rfl⟩ rfl
  · replace h := of_neg hc h
    refine Z_blk k_X11_wed 2 (pc' := 20) (lo' := [some (vR 0 21 0), some (vI a1), some (vI a2)]) (st' := [vI 2, vR 0 21 0]) (M1 := x3.2) rfl ?_
    obtain ⟨x11, hx11, h⟩ := Option.bind_eq_some_iff.mp h
    refine Z_callV8 k_X11_wed k_X11_no rfl rfl (l_11_84) (ci := 11) rfl [vI 2] [] rfl rfl (Nat.le_of_ble_eq_true rfl) (Nat.le_of_ble_eq_true rfl) (e_X11_no (d + 1) 2 x3.2 _ _ hx11) ?_
    obtain ⟨hc12, h⟩ := of_grd h
    cases h
    exact Z_ret ⟨Or.inr ⟨rfl, hc12⟩, _, rfl⟩ rfl
def f_X11_divorce (a1 : Int) (M : AM) : Option (Int × AM) := zlet (am_upd M 0 1 0) fun M1 => zlet (am_upd M1 0 0 0) fun M2 => (f_X11_isCoupleAt a1 M2).bind fun x3 => if ¬ x3.1 = 0 then (if 0 ≤ o_add 59 a1 ∧ o_add 59 a1 < 1775 then ((f_X11_becomes (o_add 65 a1) 0 x3.2).bind fun x5 => if ¬ x5.1 = 0 then (zlet (am_upd x5.2 5 (Int.toNat (o_add 59 a1)) 0) fun M6 => some (x3.2 5 (Int.toNat (o_add 59 a1)), M6)) else ((f_X11_refuse 9 x5.2).bind fun x7 => some (x7.1, x7.2))) else none) else ((f_X11_refuse 2 x3.2).bind fun x8 => some (x8.1, x8.2))
theorem e_X11_divorce {Y : List (Nat × Nat)} (d : Nat) (a1 : Int) (M : AM) (x : Int) (N : AM) (h : f_X11_divorce a1 M = some (x, N)) : Ev Y (d + 2) m_X11_divorce 0 [some (vR 0 21 0), some (vI a1), none] [] M (some (vI x)) N := by
  unfold f_X11_divorce at h
  obtain ⟨M1, eM1, h⟩ := of_zlet h
  refine Z_blk k_X11_divorce 3 (pc' := 5) (lo' := [some (vR 0 21 0), some (vI a1), none]) (st' := []) (M1 := M1) (by rw [eM1]; rfl) ?_
  obtain ⟨M2, eM2, h⟩ := of_zlet h
  refine Z_blk k_X11_divorce 3 (pc' := 10) (lo' := [some (vR 0 21 0), some (vI a1), none]) (st' := []) (M1 := M2) (by rw [eM2]; rfl) ?_
  refine Z_blk k_X11_divorce 2 (pc' := 12) (lo' := [some (vR 0 21 0), some (vI a1), none]) (st' := [vI a1, vR 0 21 0]) (M1 := M2) rfl ?_
  obtain ⟨x3, hx3, h⟩ := Option.bind_eq_some_iff.mp h
  refine Z_callV8 k_X11_divorce k_X11_isCoupleAt rfl rfl (l_11_341) (ci := 11) rfl [vI a1] [] rfl rfl (Nat.le_of_ble_eq_true rfl) (Nat.le_of_ble_eq_true rfl) (e_X11_isCoupleAt (d + 0) a1 M2 _ _ hx3) ?_
  refine Z_if k_X11_divorce rfl 24 rfl (fun hc => ?_) (fun hc => ?_)
  · replace h := of_pos hc h
    refine Z_blk k_X11_divorce 5 (pc' := 32) (lo' := [some (vR 0 21 0), some (vI a1), none]) (st' := [vI (o_add 59 a1), vR 5 0 1775]) (M1 := x3.2) rfl ?_
    obtain ⟨hc4, h⟩ := of_grd h
    refine Z_one k_X11_divorce rfl (pc' := 33) (lo' := [some (vR 0 21 0), some (vI a1), none]) (st' := [vI (x3.2 5 (Int.toNat (o_add 59 a1)))]) (M1 := x3.2) (if_pos hc4) ?_
    refine Z_blk k_X11_divorce 6 (pc' := 40) (lo' := [some (vR 0 21 0), some (vI a1), some (vI (x3.2 5 (Int.toNat (o_add 59 a1))))]) (st' := [vI 0, vI (o_add 65 a1), vR 0 21 0]) (M1 := x3.2) rfl ?_
    obtain ⟨x5, hx5, h⟩ := Option.bind_eq_some_iff.mp h
    refine Z_callV8 k_X11_divorce k_X11_becomes rfl rfl (l_11_364) (ci := 11) rfl [vI (o_add 65 a1), vI 0] [] rfl rfl (Nat.le_of_ble_eq_true rfl) (Nat.le_of_ble_eq_true rfl) (e_X11_becomes (d + 1) (o_add 65 a1) 0 x3.2 _ _ hx5) ?_
    refine Z_if k_X11_divorce rfl 53 rfl (fun hc => ?_) (fun hc => ?_)
    · replace h := of_pos hc h
      refine Z_blk k_X11_divorce 6 (pc' := 62) (lo' := [some (vR 0 21 0), some (vI a1), some (vI (x3.2 5 (Int.toNat (o_add 59 a1))))]) (st' := [vI 0, vI (o_add 59 a1), vR 5 0 1775]) (M1 := x5.2) rfl ?_
      obtain ⟨M6, eM6, h⟩ := of_zlet h
      refine Z_one k_X11_divorce rfl (pc' := 63) (lo' := [some (vR 0 21 0), some (vI a1), some (vI (x3.2 5 (Int.toNat (o_add 59 a1))))]) (st' := []) (M1 := M6) (by rw [eM6]; exact if_pos hc4) ?_
      refine Z_blk k_X11_divorce 1 (pc' := 64) (lo' := [some (vR 0 21 0), some (vI a1), some (vI (x3.2 5 (Int.toNat (o_add 59 a1))))]) (st' := [vI (x3.2 5 (Int.toNat (o_add 59 a1)))]) (M1 := M6) rfl ?_
      cases h
      exact Z_ret ⟨Or.inl rfl, _, rfl⟩ rfl
    · replace h := of_neg hc h
      refine Z_blk k_X11_divorce 2 (pc' := 49) (lo' := [some (vR 0 21 0), some (vI a1), some (vI (x3.2 5 (Int.toNat (o_add 59 a1))))]) (st' := [vI 9, vR 0 21 0]) (M1 := x5.2) rfl ?_
      obtain ⟨x7, hx7, h⟩ := Option.bind_eq_some_iff.mp h
      refine Z_callV8 k_X11_divorce k_X11_refuse rfl rfl (l_11_326) (ci := 11) rfl [vI 9] [] rfl rfl (Nat.le_of_ble_eq_true rfl) (Nat.le_of_ble_eq_true rfl) (e_X11_refuse (d + 1) 9 x5.2 _ _ hx7) ?_
      cases h
      exact Z_ret ⟨Or.inl rfl, _, rfl⟩ rfl
  · replace h := of_neg hc h
    refine Z_blk k_X11_divorce 2 (pc' := 20) (lo' := [some (vR 0 21 0), some (vI a1), none]) (st' := [vI 2, vR 0 21 0]) (M1 := x3.2) rfl ?_
    obtain ⟨x8, hx8, h⟩ := Option.bind_eq_some_iff.mp h
    refine Z_callV8 k_X11_divorce k_X11_refuse rfl rfl (l_11_326) (ci := 11) rfl [vI 2] [] rfl rfl (Nat.le_of_ble_eq_true rfl) (Nat.le_of_ble_eq_true rfl) (e_X11_refuse (d + 1) 2 x3.2 _ _ hx8) ?_
    cases h
    exact Z_ret ⟨Or.inl rfl, _, rfl⟩ rfl
def f_X11_rule_56 (M : AM) : Option (Int × AM) := (f_X11_no 5 M).bind fun x1 => if x1.1 = 0 ∨ x1.1 = 1 then some (x1.1, x1.2) else none
theorem e_X11_rule_56 {Y : List (Nat × Nat)} (d : Nat) (M : AM) (x : Int) (N : AM) (h : f_X11_rule_56 M = some (x, N)) : Ev Y (d + 1) m_X11_rule 56 [some (vR 0 21 0), none, none] [] M (some (vI x)) N := by
  unfold f_X11_rule_56 at h
  refine Z_blk k_X11_rule 2 (pc' := 58) (lo' := [some (vR 0 21 0), none, none]) (st' := [vI 5, vR 0 21 0]) (M1 := M) rfl ?_
  obtain ⟨x1, hx1, h⟩ := Option.bind_eq_some_iff.mp h
  refine Z_callV8 k_X11_rule k_X11_no rfl rfl (l_11_84) (ci := 11) rfl [vI 5] [] rfl rfl (Nat.le_of_ble_eq_true rfl) (Nat.le_of_ble_eq_true rfl) (e_X11_no (d + 0) 5 M _ _ hx1) ?_
  obtain ⟨hc2, h⟩ := of_grd h
  cases h
  exact Z_ret ⟨Or.inr ⟨rfl, hc2⟩, _, rfl⟩ rfl
def f_X11_rule_50 (a1 : Int) (a2 : Int) (s0 : Int) (s1 : Int) (s2 : Int) (M : AM) : Option (Int × AM) := (f_X11_isIn s0 s1 s2 M).bind fun x1 => if ¬ x1.1 = 0 then (if 0 ≤ a1 ∧ a1 < 1775 then (zlet (am_upd x1.2 5 (Int.toNat a1) a2) fun M3 => some (1, M3)) else none) else f_X11_rule_56 x1.2
theorem e_X11_rule_50 {Y : List (Nat × Nat)} (d : Nat) (a1 : Int) (a2 : Int) (s0 : Int) (s1 : Int) (s2 : Int) (M : AM) (x : Int) (N : AM) (h : f_X11_rule_50 a1 a2 s0 s1 s2 M = some (x, N)) : Ev Y (d + 1) m_X11_rule 50 [some (vR 0 21 0), some (vI a1), some (vI a2)] [vL s2, vL s1, vL s0] M (some (vI x)) N := by
  unfold f_X11_rule_50 at h
  obtain ⟨x1, hx1, h⟩ := Option.bind_eq_some_iff.mp h
  refine Z_callS8 k_X11_rule k_X11_isIn rfl rfl (l_11_104) [vL s0, vL s1, vL s2] [] rfl rfl (Nat.le_of_ble_eq_true rfl) (Nat.le_of_ble_eq_true rfl) (e_X11_isIn (d + 0) s0 s1 s2 M _ _ hx1) ?_
  refine Z_if k_X11_rule rfl 62 rfl (fun hc => ?_) (fun hc => ?_)
  · replace h := of_pos hc h
    refine Z_blk k_X11_rule 4 (pc' := 68) (lo' := [some (vR 0 21 0), some (vI a1), some (vI a2)]) (st' := [vI a2, vI a1, vR 5 0 1775]) (M1 := x1.2) rfl ?_
    obtain ⟨hc2, h⟩ := of_grd h
    obtain ⟨M3, eM3, h⟩ := of_zlet h
    refine Z_one k_X11_rule rfl (pc' := 69) (lo' := [some (vR 0 21 0), some (vI a1), some (vI a2)]) (st' := []) (M1 := M3) (by rw [eM3]; exact if_pos hc2) ?_
    refine Z_blk k_X11_rule 1 (pc' := 70) (lo' := [some (vR 0 21 0), some (vI a1), some (vI a2)]) (st' := [vI 1]) (M1 := M3) rfl ?_
    cases h
    exact Z_ret ⟨Or.inr ⟨rfl, Or.inr rfl⟩, _, rfl⟩ rfl
  · replace h := of_neg hc h
    refine Z_mask [true, false, false] (lo0 := [some (vR 0 21 0), none, none]) rfl ?_
    exact e_X11_rule_56 d x1.2 _ _ h
def f_X11_rule_36 (a1 : Int) (a2 : Int) (s0 : Int) (s1 : Int) (M : AM) : Option (Int × AM) := if ¬ a1 = 3 then f_X11_rule_50 a1 a2 s0 s1 16 M else f_X11_rule_50 a1 a2 s0 s1 99 M
theorem e_X11_rule_36 {Y : List (Nat × Nat)} (d : Nat) (a1 : Int) (a2 : Int) (s0 : Int) (s1 : Int) (M : AM) (x : Int) (N : AM) (h : f_X11_rule_36 a1 a2 s0 s1 M = some (x, N)) : Ev Y (d + 1) m_X11_rule 36 [some (vR 0 21 0), some (vI a1), some (vI a2)] [vL s1, vL s0] M (some (vI x)) N := by
  unfold f_X11_rule_36 at h
  refine Z_blk k_X11_rule 2 (pc' := 38) (lo' := [some (vR 0 21 0), some (vI a1), some (vI a2)]) (st' := [vI 3, vI a1, vL s1, vL s0]) (M1 := M) rfl ?_
  refine Z_icmp k_X11_rule rfl 47 rfl (fun hc => ?_) (fun hc => ?_)
  · replace h := of_pos hc h
    refine Z_blk k_X11_rule 1 (pc' := 50) (lo' := [some (vR 0 21 0), some (vI a1), some (vI a2)]) (st' := [vL 16, vL s1, vL s0]) (M1 := M) rfl ?_
    refine Z_mask [true, true, true] (lo0 := [some (vR 0 21 0), some (vI a1), some (vI a2)]) rfl ?_
    exact e_X11_rule_50 d a1 a2 s0 s1 16 M _ _ h
  · replace h := of_neg hc h
    refine Z_blk k_X11_rule 2 (pc' := 50) (lo' := [some (vR 0 21 0), some (vI a1), some (vI a2)]) (st' := [vL 99, vL s1, vL s0]) (M1 := M) rfl ?_
    refine Z_mask [true, true, true] (lo0 := [some (vR 0 21 0), some (vI a1), some (vI a2)]) rfl ?_
    exact e_X11_rule_50 d a1 a2 s0 s1 99 M _ _ h
def f_X11_rule (a1 : Int) (a2 : Int) (M : AM) : Option (Int × AM) := zlet (am_upd M 0 1 0) fun M1 => zlet (am_upd M1 0 0 0) fun M2 => (f_X11_isIn a1 3 4 M2).bind fun x3 => if x3.1 = 0 then f_X11_rule_56 x3.2 else (if ¬ a1 = 3 then f_X11_rule_36 a1 a2 a2 0 x3.2 else f_X11_rule_36 a1 a2 a2 1 x3.2)
theorem e_X11_rule {Y : List (Nat × Nat)} (d : Nat) (a1 : Int) (a2 : Int) (M : AM) (x : Int) (N : AM) (h : f_X11_rule a1 a2 M = some (x, N)) : Ev Y (d + 1) m_X11_rule 0 [some (vR 0 21 0), some (vI a1), some (vI a2)] [] M (some (vI x)) N := by
  unfold f_X11_rule at h
  obtain ⟨M1, eM1, h⟩ := of_zlet h
  refine Z_blk k_X11_rule 3 (pc' := 5) (lo' := [some (vR 0 21 0), some (vI a1), some (vI a2)]) (st' := []) (M1 := M1) (by rw [eM1]; rfl) ?_
  obtain ⟨M2, eM2, h⟩ := of_zlet h
  refine Z_blk k_X11_rule 3 (pc' := 10) (lo' := [some (vR 0 21 0), some (vI a1), some (vI a2)]) (st' := []) (M1 := M2) (by rw [eM2]; rfl) ?_
  refine Z_blk k_X11_rule 4 (pc' := 18) (lo' := [some (vR 0 21 0), some (vI a1), some (vI a2)]) (st' := [vL 4, vL 3, vL a1]) (M1 := M2) rfl ?_
  obtain ⟨x3, hx3, h⟩ := Option.bind_eq_some_iff.mp h
  refine Z_callS8 k_X11_rule k_X11_isIn rfl rfl (l_11_104) [vL a1, vL 3, vL 4] [] rfl rfl (Nat.le_of_ble_eq_true rfl) (Nat.le_of_ble_eq_true rfl) (e_X11_isIn (d + 0) a1 3 4 M2 _ _ hx3) ?_
  refine Z_if k_X11_rule rfl 56 rfl (fun hc => ?_) (fun hc => ?_)
  · replace h := of_pos hc h
    refine Z_mask [true, false, false] (lo0 := [some (vR 0 21 0), none, none]) rfl ?_
    exact e_X11_rule_56 d x3.2 _ _ h
  · replace h := of_neg hc h
    refine Z_blk k_X11_rule 4 (pc' := 28) (lo' := [some (vR 0 21 0), some (vI a1), some (vI a2)]) (st' := [vI 3, vI a1, vL a2]) (M1 := x3.2) rfl ?_
    refine Z_icmp k_X11_rule rfl 35 rfl (fun hc => ?_) (fun hc => ?_)
    · replace h := of_pos hc h
      refine Z_blk k_X11_rule 1 (pc' := 36) (lo' := [some (vR 0 21 0), some (vI a1), some (vI a2)]) (st' := [vL 0, vL a2]) (M1 := x3.2) rfl ?_
      refine Z_mask [true, true, true] (lo0 := [some (vR 0 21 0), some (vI a1), some (vI a2)]) rfl ?_
      exact e_X11_rule_36 d a1 a2 a2 0 x3.2 _ _ h
    · replace h := of_neg hc h
      refine Z_blk k_X11_rule 2 (pc' := 36) (lo' := [some (vR 0 21 0), some (vI a1), some (vI a2)]) (st' := [vL 1, vL a2]) (M1 := x3.2) rfl ?_
      refine Z_mask [true, true, true] (lo0 := [some (vR 0 21 0), some (vI a1), some (vI a2)]) rfl ?_
      exact e_X11_rule_36 d a1 a2 a2 1 x3.2 _ _ h
def f_X11_far_26 (M : AM) : Option (Int × AM) := (f_X11_refuse 2 M).bind fun x1 => some (x1.1, x1.2)
theorem e_X11_far_26 {Y : List (Nat × Nat)} (d : Nat) (M : AM) (x : Int) (N : AM) (h : f_X11_far_26 M = some (x, N)) : Ev Y (d + 2) m_X11_far 26 [some (vR 0 21 0), none, none] [] M (some (vI x)) N := by
  unfold f_X11_far_26 at h
  refine Z_blk k_X11_far 2 (pc' := 28) (lo' := [some (vR 0 21 0), none, none]) (st' := [vI 2, vR 0 21 0]) (M1 := M) rfl ?_
  obtain ⟨x1, hx1, h⟩ := Option.bind_eq_some_iff.mp h
  refine Z_callV8 k_X11_far k_X11_refuse rfl rfl (l_11_326) (ci := 11) rfl [vI 2] [] rfl rfl (Nat.le_of_ble_eq_true rfl) (Nat.le_of_ble_eq_true rfl) (e_X11_refuse (d + 1) 2 M _ _ hx1) ?_
  cases h
  exact Z_ret ⟨Or.inl rfl, _, rfl⟩ rfl
def f_X11_far (a1 : Int) (a2 : Int) (M : AM) : Option (Int × AM) := zlet (am_upd M 0 1 0) fun M1 => zlet (am_upd M1 0 0 0) fun M2 => (f_X11_isRoomAt a1 M2).bind fun x3 => if x3.1 = 0 then f_X11_far_26 x3.2 else ((f_X11_isRoomAt a2 x3.2).bind fun x4 => if ¬ x4.1 = 0 then ((f_X11_laysFar x4.2).bind fun x5 => (f_X11_farOf a1 a2 x5).bind fun x6 => if x6.1 < 1000 then ((f_X11_farOf a1 a2 x6.2).bind fun x7 => some (x7.1, x7.2)) else ((f_X11_refuse 8 x6.2).bind fun x8 => some (x8.1, x8.2))) else f_X11_far_26 x4.2)
theorem e_X11_far {Y : List (Nat × Nat)} (d : Nat) (a1 : Int) (a2 : Int) (M : AM) (x : Int) (N : AM) (h : f_X11_far a1 a2 M = some (x, N)) : Ev Y (d + 2) m_X11_far 0 [some (vR 0 21 0), some (vI a1), some (vI a2)] [] M (some (vI x)) N := by
  unfold f_X11_far at h
  obtain ⟨M1, eM1, h⟩ := of_zlet h
  refine Z_blk k_X11_far 3 (pc' := 5) (lo' := [some (vR 0 21 0), some (vI a1), some (vI a2)]) (st' := []) (M1 := M1) (by rw [eM1]; rfl) ?_
  obtain ⟨M2, eM2, h⟩ := of_zlet h
  refine Z_blk k_X11_far 3 (pc' := 10) (lo' := [some (vR 0 21 0), some (vI a1), some (vI a2)]) (st' := []) (M1 := M2) (by rw [eM2]; rfl) ?_
  refine Z_blk k_X11_far 2 (pc' := 12) (lo' := [some (vR 0 21 0), some (vI a1), some (vI a2)]) (st' := [vI a1, vR 0 21 0]) (M1 := M2) rfl ?_
  obtain ⟨x3, hx3, h⟩ := Option.bind_eq_some_iff.mp h
  refine Z_callV8 k_X11_far k_X11_isRoomAt rfl rfl (l_11_375) (ci := 11) rfl [vI a1] [] rfl rfl (Nat.le_of_ble_eq_true rfl) (Nat.le_of_ble_eq_true rfl) (e_X11_isRoomAt (d + 0) a1 M2 _ _ hx3) ?_
  refine Z_if k_X11_far rfl 26 rfl (fun hc => ?_) (fun hc => ?_)
  · replace h := of_pos hc h
    refine Z_mask [true, false, false] (lo0 := [some (vR 0 21 0), none, none]) rfl ?_
    exact e_X11_far_26 d x3.2 _ _ h
  · replace h := of_neg hc h
    refine Z_blk k_X11_far 2 (pc' := 20) (lo' := [some (vR 0 21 0), some (vI a1), some (vI a2)]) (st' := [vI a2, vR 0 21 0]) (M1 := x3.2) rfl ?_
    obtain ⟨x4, hx4, h⟩ := Option.bind_eq_some_iff.mp h
    refine Z_callV8 k_X11_far k_X11_isRoomAt rfl rfl (l_11_375) (ci := 11) rfl [vI a2] [] rfl rfl (Nat.le_of_ble_eq_true rfl) (Nat.le_of_ble_eq_true rfl) (e_X11_isRoomAt (d + 0) a2 x3.2 _ _ hx4) ?_
    refine Z_if k_X11_far rfl 32 rfl (fun hc => ?_) (fun hc => ?_)
    · replace h := of_pos hc h
      refine Z_blk k_X11_far 1 (pc' := 33) (lo' := [some (vR 0 21 0), some (vI a1), some (vI a2)]) (st' := [vR 0 21 0]) (M1 := x4.2) rfl ?_
      obtain ⟨x5, hx5, h⟩ := Option.bind_eq_some_iff.mp h
      refine Z_callV8 k_X11_far k_X11_laysFar rfl rfl (l_11_318) (ci := 11) rfl [] [] rfl rfl (Nat.le_of_ble_eq_true rfl) (Nat.le_of_ble_eq_true rfl) (e_X11_laysFar (d + 1) x4.2 _ hx5) ?_
      refine Z_blk k_X11_far 3 (pc' := 39) (lo' := [some (vR 0 21 0), some (vI a1), some (vI a2)]) (st' := [vI a2, vI a1, vR 0 21 0]) (M1 := x5) rfl ?_
      obtain ⟨x6, hx6, h⟩ := Option.bind_eq_some_iff.mp h
      refine Z_callV8 k_X11_far k_X11_farOf rfl rfl (l_11_312) (ci := 11) rfl [vI a1, vI a2] [] rfl rfl (Nat.le_of_ble_eq_true rfl) (Nat.le_of_ble_eq_true rfl) (e_X11_farOf (d + 1) a1 a2 x5 _ _ hx6) ?_
      refine Z_blk k_X11_far 1 (pc' := 45) (lo' := [some (vR 0 21 0), some (vI a1), some (vI a2)]) (st' := [vI 1000, vI x6.1]) (M1 := x6.2) rfl ?_
      refine Z_icmp k_X11_far rfl 57 rfl (fun hc => ?_) (fun hc => ?_)
      · replace h := of_pos hc h
        refine Z_blk k_X11_far 3 (pc' := 60) (lo' := [some (vR 0 21 0), some (vI a1), some (vI a2)]) (st' := [vI a2, vI a1, vR 0 21 0]) (M1 := x6.2) rfl ?_
        obtain ⟨x7, hx7, h⟩ := Option.bind_eq_some_iff.mp h
        refine Z_callV8 k_X11_far k_X11_farOf rfl rfl (l_11_312) (ci := 11) rfl [vI a1, vI a2] [] rfl rfl (Nat.le_of_ble_eq_true rfl) (Nat.le_of_ble_eq_true rfl) (e_X11_farOf (d + 1) a1 a2 x6.2 _ _ hx7) ?_
        cases h
        exact Z_ret ⟨Or.inl rfl, _, rfl⟩ rfl
      · replace h := of_neg hc h
        refine Z_blk k_X11_far 2 (pc' := 51) (lo' := [some (vR 0 21 0), some (vI a1), some (vI a2)]) (st' := [vI 8, vR 0 21 0]) (M1 := x6.2) rfl ?_
        obtain ⟨x8, hx8, h⟩ := Option.bind_eq_some_iff.mp h
        refine Z_callV8 k_X11_far k_X11_refuse rfl rfl (l_11_326) (ci := 11) rfl [vI 8] [] rfl rfl (Nat.le_of_ble_eq_true rfl) (Nat.le_of_ble_eq_true rfl) (e_X11_refuse (d + 1) 8 x6.2 _ _ hx8) ?_
        refine Z_blk k_X11_far 1 (pc' := 63) (lo' := [some (vR 0 21 0), some (vI a1), some (vI a2)]) (st' := [vI x8.1]) (M1 := x8.2) rfl ?_
        cases h
        exact Z_ret ⟨Or.inl rfl, _, rfl⟩ rfl
    · replace h := of_neg hc h
      refine Z_mask [true, false, false] (lo0 := [some (vR 0 21 0), none, none]) rfl ?_
      exact e_X11_far_26 d x4.2 _ _ h
