theorem l_11_430 : zhas 8198 (Jvm.Cond.methodLink "BellPullHouseModel" 430 yX11_plays) = true := by decide +kernel
def f_X11_plays_216 (r_X11_plays : Int → Int → AM → Option (Int × AM)) (k_34 : Int → Int → Int → Int → Int → Int → AM → Option (Int × AM)) (a1 : Int) (a2 : Int) (a3 : Int) (a4 : Int) (a5 : Int) (a6 : Int) (a10 : Int) (M : AM) : Option (Int × AM) := if a5 < 0 then k_34 a1 a2 a3 a10 a6 (o_add a6 1) M else (if a3 = 0 then (if a4 < a10 then k_34 a1 a2 a3 a10 a6 (o_add a6 1) M else k_34 a1 a2 a3 a4 a5 (o_add a6 1) M) else (if a10 < a4 then k_34 a1 a2 a3 a10 a6 (o_add a6 1) M else k_34 a1 a2 a3 a4 a5 (o_add a6 1) M))
theorem e_X11_plays_216 {Y : List (Nat × Nat)} (d : Nat) (r_X11_plays : Int → Int → AM → Option (Int × AM)) (k_34 : Int → Int → Int → Int → Int → Int → AM → Option (Int × AM)) (hr_X11_plays : ∀ (a1 : Int) (a2 : Int) (M : AM) (x : Int) (N : AM), r_X11_plays a1 a2 M = some (x, N) → Ev Y (d + 3) m_X11_plays 0 [some (vR 0 21 0), some (vI a1), some (vI a2), none, none, none, none, none, none, none, none] [] M (some (vI x)) N) (hk_34 : ∀ (a1 : Int) (a2 : Int) (a3 : Int) (a4 : Int) (a5 : Int) (a6 : Int) (M : AM) (x : Int) (N : AM), k_34 a1 a2 a3 a4 a5 a6 M = some (x, N) → Ev Y (d + 4) m_X11_plays 34 [some (vR 0 21 0), some (vI a1), some (vI a2), some (vI a3), some (vI a4), some (vI a5), some (vI a6), none, none, none, none] [] M (some (vI x)) N) (a1 : Int) (a2 : Int) (a3 : Int) (a4 : Int) (a5 : Int) (a6 : Int) (a10 : Int) (M : AM) (x : Int) (N : AM) (h : f_X11_plays_216 r_X11_plays k_34 a1 a2 a3 a4 a5 a6 a10 M = some (x, N)) : Ev Y (d + 4) m_X11_plays 216 [some (vR 0 21 0), some (vI a1), some (vI a2), some (vI a3), some (vI a4), some (vI a5), some (vI a6), none, none, none, some (vI a10)] [] M (some (vI x)) N := by
  unfold f_X11_plays_216 at h
  refine Z_blk k_X11_plays 1 (pc' := 218) (lo' := [some (vR 0 21 0), some (vI a1), some (vI a2), some (vI a3), some (vI a4), some (vI a5), some (vI a6), none, none, none, some (vI a10)]) (st' := [vI a5]) (M1 := M) rfl ?_
  refine Z_if k_X11_plays rfl 245 rfl (fun hc => ?_) (fun hc => ?_)
  · replace h := of_pos hc h
    refine Z_blk k_X11_plays 6 (pc' := 34) (lo' := [some (vR 0 21 0), some (vI a1), some (vI a2), some (vI a3), some (vI a10), some (vI a6), some (vI (o_add a6 1)), none, none, none, some (vI a10)]) (st' := []) (M1 := M) rfl ?_
    refine Z_mask [true, true, true, true, true, true, true, false, false, false, false] (lo0 := [some (vR 0 21 0), some (vI a1), some (vI a2), some (vI a3), some (vI a10), some (vI a6), some (vI (o_add a6 1)), none, none, none, none]) rfl ?_
    exact hk_34 a1 a2 a3 a10 a6 (o_add a6 1) M _ _ h
  · replace h := of_neg hc h
    refine Z_blk k_X11_plays 1 (pc' := 222) (lo' := [some (vR 0 21 0), some (vI a1), some (vI a2), some (vI a3), some (vI a4), some (vI a5), some (vI a6), none, none, none, some (vI a10)]) (st' := [vI a3]) (M1 := M) rfl ?_
    refine Z_if k_X11_plays rfl 235 rfl (fun hc => ?_) (fun hc => ?_)
    · replace h := of_pos hc h
      refine Z_blk k_X11_plays 2 (pc' := 239) (lo' := [some (vR 0 21 0), some (vI a1), some (vI a2), some (vI a3), some (vI a4), some (vI a5), some (vI a6), none, none, none, some (vI a10)]) (st' := [vI a4, vI a10]) (M1 := M) rfl ?_
      refine Z_icmp k_X11_plays rfl 245 rfl (fun hc => ?_) (fun hc => ?_)
      · replace h := of_pos hc h
        refine Z_blk k_X11_plays 6 (pc' := 34) (lo' := [some (vR 0 21 0), some (vI a1), some (vI a2), some (vI a3), some (vI a10), some (vI a6), some (vI (o_add a6 1)), none, none, none, some (vI a10)]) (st' := []) (M1 := M) rfl ?_
        refine Z_mask [true, true, true, true, true, true, true, false, false, false, false] (lo0 := [some (vR 0 21 0), some (vI a1), some (vI a2), some (vI a3), some (vI a10), some (vI a6), some (vI (o_add a6 1)), none, none, none, none]) rfl ?_
        exact hk_34 a1 a2 a3 a10 a6 (o_add a6 1) M _ _ h
      · replace h := of_neg hc h
        refine Z_blk k_X11_plays 3 (pc' := 34) (lo' := [some (vR 0 21 0), some (vI a1), some (vI a2), some (vI a3), some (vI a4), some (vI a5), some (vI (o_add a6 1)), none, none, none, some (vI a10)]) (st' := []) (M1 := M) rfl ?_
        refine Z_mask [true, true, true, true, true, true, true, false, false, false, false] (lo0 := [some (vR 0 21 0), some (vI a1), some (vI a2), some (vI a3), some (vI a4), some (vI a5), some (vI (o_add a6 1)), none, none, none, none]) rfl ?_
        exact hk_34 a1 a2 a3 a4 a5 (o_add a6 1) M _ _ h
    · replace h := of_neg hc h
      refine Z_blk k_X11_plays 2 (pc' := 229) (lo' := [some (vR 0 21 0), some (vI a1), some (vI a2), some (vI a3), some (vI a4), some (vI a5), some (vI a6), none, none, none, some (vI a10)]) (st' := [vI a4, vI a10]) (M1 := M) rfl ?_
      refine Z_icmp k_X11_plays rfl 245 rfl (fun hc => ?_) (fun hc => ?_)
      · replace h := of_pos hc h
        refine Z_blk k_X11_plays 6 (pc' := 34) (lo' := [some (vR 0 21 0), some (vI a1), some (vI a2), some (vI a3), some (vI a10), some (vI a6), some (vI (o_add a6 1)), none, none, none, some (vI a10)]) (st' := []) (M1 := M) rfl ?_
        refine Z_mask [true, true, true, true, true, true, true, false, false, false, false] (lo0 := [some (vR 0 21 0), some (vI a1), some (vI a2), some (vI a3), some (vI a10), some (vI a6), some (vI (o_add a6 1)), none, none, none, none]) rfl ?_
        exact hk_34 a1 a2 a3 a10 a6 (o_add a6 1) M _ _ h
      · replace h := of_neg hc h
        refine Z_blk k_X11_plays 3 (pc' := 34) (lo' := [some (vR 0 21 0), some (vI a1), some (vI a2), some (vI a3), some (vI a4), some (vI a5), some (vI (o_add a6 1)), none, none, none, some (vI a10)]) (st' := []) (M1 := M) rfl ?_
        refine Z_mask [true, true, true, true, true, true, true, false, false, false, false] (lo0 := [some (vR 0 21 0), some (vI a1), some (vI a2), some (vI a3), some (vI a4), some (vI a5), some (vI (o_add a6 1)), none, none, none, none]) rfl ?_
        exact hk_34 a1 a2 a3 a4 a5 (o_add a6 1) M _ _ h
def f_X11_plays_177 (r_X11_plays : Int → Int → AM → Option (Int × AM)) (k_34 : Int → Int → Int → Int → Int → Int → AM → Option (Int × AM)) (a1 : Int) (a2 : Int) (a3 : Int) (a4 : Int) (a5 : Int) (a6 : Int) (a7 : Int) (a8 : Int) (a9 : Int) (M : AM) : Option (Int × AM) := (r_X11_plays (o_add a1 1) a2 M).bind fun x1 => if ¬ a7 = 0 then f_X11_plays_216 r_X11_plays k_34 a1 a2 a3 a4 a5 a6 x1.1 x1.2 else (if 0 ≤ o_add 37 a6 ∧ o_add 37 a6 < 1775 then (zlet (am_upd x1.2 5 (Int.toNat (o_add 37 a6)) a8) fun M3 => if 0 ≤ o_add 27 a6 ∧ o_add 27 a6 < 1775 then (zlet (am_upd M3 5 (Int.toNat (o_add 27 a6)) a9) fun M5 => f_X11_plays_216 r_X11_plays k_34 a1 a2 a3 a4 a5 a6 x1.1 M5) else none) else none)
theorem e_X11_plays_177 {Y : List (Nat × Nat)} (d : Nat) (r_X11_plays : Int → Int → AM → Option (Int × AM)) (k_34 : Int → Int → Int → Int → Int → Int → AM → Option (Int × AM)) (hr_X11_plays : ∀ (a1 : Int) (a2 : Int) (M : AM) (x : Int) (N : AM), r_X11_plays a1 a2 M = some (x, N) → Ev Y (d + 3) m_X11_plays 0 [some (vR 0 21 0), some (vI a1), some (vI a2), none, none, none, none, none, none, none, none] [] M (some (vI x)) N) (hk_34 : ∀ (a1 : Int) (a2 : Int) (a3 : Int) (a4 : Int) (a5 : Int) (a6 : Int) (M : AM) (x : Int) (N : AM), k_34 a1 a2 a3 a4 a5 a6 M = some (x, N) → Ev Y (d + 4) m_X11_plays 34 [some (vR 0 21 0), some (vI a1), some (vI a2), some (vI a3), some (vI a4), some (vI a5), some (vI a6), none, none, none, none] [] M (some (vI x)) N) (a1 : Int) (a2 : Int) (a3 : Int) (a4 : Int) (a5 : Int) (a6 : Int) (a7 : Int) (a8 : Int) (a9 : Int) (M : AM) (x : Int) (N : AM) (h : f_X11_plays_177 r_X11_plays k_34 a1 a2 a3 a4 a5 a6 a7 a8 a9 M = some (x, N)) : Ev Y (d + 4) m_X11_plays 177 [some (vR 0 21 0), some (vI a1), some (vI a2), some (vI a3), some (vI a4), some (vI a5), some (vI a6), some (vI a7), some (vI a8), some (vI a9), none] [] M (some (vI x)) N := by
  unfold f_X11_plays_177 at h
  refine Z_blk k_X11_plays 5 (pc' := 182) (lo' := [some (vR 0 21 0), some (vI a1), some (vI a2), some (vI a3), some (vI a4), some (vI a5), some (vI a6), some (vI a7), some (vI a8), some (vI a9), none]) (st' := [vI a2, vI (o_add a1 1), vR 0 21 0]) (M1 := M) rfl ?_
  obtain ⟨x1, hx1, h⟩ := Option.bind_eq_some_iff.mp h
  refine Z_callV8 k_X11_plays k_X11_plays rfl rfl (l_11_430) (ci := 11) rfl [vI (o_add a1 1), vI a2] [] rfl rfl (Nat.le_of_ble_eq_true rfl) (Nat.le_of_ble_eq_true rfl) (hr_X11_plays (o_add a1 1) a2 M _ _ hx1) ?_
  refine Z_blk k_X11_plays 2 (pc' := 189) (lo' := [some (vR 0 21 0), some (vI a1), some (vI a2), some (vI a3), some (vI a4), some (vI a5), some (vI a6), some (vI a7), some (vI a8), some (vI a9), some (vI x1.1)]) (st' := [vI a7]) (M1 := x1.2) rfl ?_
  refine Z_if k_X11_plays rfl 216 rfl (fun hc => ?_) (fun hc => ?_)
  · replace h := of_pos hc h
    refine Z_mask [true, true, true, true, true, true, true, false, false, false, true] (lo0 := [some (vR 0 21 0), some (vI a1), some (vI a2), some (vI a3), some (vI a4), some (vI a5), some (vI a6), none, none, none, some (vI x1.1)]) rfl ?_
    exact e_X11_plays_216 d r_X11_plays k_34 hr_X11_plays hk_34 a1 a2 a3 a4 a5 a6 x1.1 x1.2 _ _ h
  · replace h := of_neg hc h
    refine Z_blk k_X11_plays 6 (pc' := 203) (lo' := [some (vR 0 21 0), some (vI a1), some (vI a2), some (vI a3), some (vI a4), some (vI a5), some (vI a6), some (vI a7), some (vI a8), some (vI a9), some (vI x1.1)]) (st' := [vI a8, vI (o_add 37 a6), vR 5 0 1775]) (M1 := x1.2) rfl ?_
    obtain ⟨hc2, h⟩ := of_grd h
    obtain ⟨M3, eM3, h⟩ := of_zlet h
    refine Z_one k_X11_plays rfl (pc' := 204) (lo' := [some (vR 0 21 0), some (vI a1), some (vI a2), some (vI a3), some (vI a4), some (vI a5), some (vI a6), some (vI a7), some (vI a8), some (vI a9), some (vI x1.1)]) (st' := []) (M1 := M3) (by rw [eM3]; exact if_pos hc2) ?_
    refine Z_blk k_X11_plays 6 (pc' := 215) (lo' := [some (vR 0 21 0), some (vI a1), some (vI a2), some (vI a3), some (vI a4), some (vI a5), some (vI a6), some (vI a7), some (vI a8), some (vI a9), some (vI x1.1)]) (st' := [vI a9, vI (o_add 27 a6), vR 5 0 1775]) (M1 := M3) rfl ?_
    obtain ⟨hc4, h⟩ := of_grd h
    obtain ⟨M5, eM5, h⟩ := of_zlet h
    refine Z_one k_X11_plays rfl (pc' := 216) (lo' := [some (vR 0 21 0), some (vI a1), some (vI a2), some (vI a3), some (vI a4), some (vI a5), some (vI a6), some (vI a7), some (vI a8), some (vI a9), some (vI x1.1)]) (st' := []) (M1 := M5) (by rw [eM5]; exact if_pos hc4) ?_
    refine Z_mask [true, true, true, true, true, true, true, false, false, false, true] (lo0 := [some (vR 0 21 0), some (vI a1), some (vI a2), some (vI a3), some (vI a4), some (vI a5), some (vI a6), none, none, none, some (vI x1.1)]) rfl ?_
    exact e_X11_plays_216 d r_X11_plays k_34 hr_X11_plays hk_34 a1 a2 a3 a4 a5 a6 x1.1 M5 _ _ h
def f_X11_plays_165 (r_X11_plays : Int → Int → AM → Option (Int × AM)) (k_34 : Int → Int → Int → Int → Int → Int → AM → Option (Int × AM)) (a1 : Int) (a2 : Int) (a3 : Int) (a4 : Int) (a5 : Int) (a6 : Int) (a7 : Int) (a8 : Int) (a9 : Int) (M : AM) : Option (Int × AM) := if ¬ a7 = 0 then f_X11_plays_177 r_X11_plays k_34 a1 a2 a3 a4 a5 a6 a7 a8 a9 M else ((f_X11_repairs a6 M).bind fun x1 => f_X11_plays_177 r_X11_plays k_34 a1 a2 a3 a4 a5 a6 a7 a8 a9 x1.2)
theorem e_X11_plays_165 {Y : List (Nat × Nat)} (d : Nat) (r_X11_plays : Int → Int → AM → Option (Int × AM)) (k_34 : Int → Int → Int → Int → Int → Int → AM → Option (Int × AM)) (hr_X11_plays : ∀ (a1 : Int) (a2 : Int) (M : AM) (x : Int) (N : AM), r_X11_plays a1 a2 M = some (x, N) → Ev Y (d + 3) m_X11_plays 0 [some (vR 0 21 0), some (vI a1), some (vI a2), none, none, none, none, none, none, none, none] [] M (some (vI x)) N) (hk_34 : ∀ (a1 : Int) (a2 : Int) (a3 : Int) (a4 : Int) (a5 : Int) (a6 : Int) (M : AM) (x : Int) (N : AM), k_34 a1 a2 a3 a4 a5 a6 M = some (x, N) → Ev Y (d + 4) m_X11_plays 34 [some (vR 0 21 0), some (vI a1), some (vI a2), some (vI a3), some (vI a4), some (vI a5), some (vI a6), none, none, none, none] [] M (some (vI x)) N) (a1 : Int) (a2 : Int) (a3 : Int) (a4 : Int) (a5 : Int) (a6 : Int) (a7 : Int) (a8 : Int) (a9 : Int) (M : AM) (x : Int) (N : AM) (h : f_X11_plays_165 r_X11_plays k_34 a1 a2 a3 a4 a5 a6 a7 a8 a9 M = some (x, N)) : Ev Y (d + 4) m_X11_plays 165 [some (vR 0 21 0), some (vI a1), some (vI a2), some (vI a3), some (vI a4), some (vI a5), some (vI a6), some (vI a7), some (vI a8), some (vI a9), none] [] M (some (vI x)) N := by
  unfold f_X11_plays_165 at h
  refine Z_blk k_X11_plays 1 (pc' := 167) (lo' := [some (vR 0 21 0), some (vI a1), some (vI a2), some (vI a3), some (vI a4), some (vI a5), some (vI a6), some (vI a7), some (vI a8), some (vI a9), none]) (st' := [vI a7]) (M1 := M) rfl ?_
  refine Z_if k_X11_plays rfl 177 rfl (fun hc => ?_) (fun hc => ?_)
  · replace h := of_pos hc h
    refine Z_mask [true, true, true, true, true, true, true, true, true, true, false] (lo0 := [some (vR 0 21 0), some (vI a1), some (vI a2), some (vI a3), some (vI a4), some (vI a5), some (vI a6), some (vI a7), some (vI a8), some (vI a9), none]) rfl ?_
    exact e_X11_plays_177 d r_X11_plays k_34 hr_X11_plays hk_34 a1 a2 a3 a4 a5 a6 a7 a8 a9 M _ _ h
  · replace h := of_neg hc h
    refine Z_blk k_X11_plays 2 (pc' := 173) (lo' := [some (vR 0 21 0), some (vI a1), some (vI a2), some (vI a3), some (vI a4), some (vI a5), some (vI a6), some (vI a7), some (vI a8), some (vI a9), none]) (st' := [vI a6, vR 0 21 0]) (M1 := M) rfl ?_
    obtain ⟨x1, hx1, h⟩ := Option.bind_eq_some_iff.mp h
    refine Z_callV8 k_X11_plays k_X11_repairs rfl rfl (l_11_370) (ci := 11) rfl [vI a6] [] rfl rfl (Nat.le_of_ble_eq_true rfl) (Nat.le_of_ble_eq_true rfl) (e_X11_repairs (d + 3) a6 M _ _ hx1) ?_
    refine Z_blk k_X11_plays 1 (pc' := 177) (lo' := [some (vR 0 21 0), some (vI a1), some (vI a2), some (vI a3), some (vI a4), some (vI a5), some (vI a6), some (vI a7), some (vI a8), some (vI a9), none]) (st' := []) (M1 := x1.2) rfl ?_
    refine Z_mask [true, true, true, true, true, true, true, true, true, true, false] (lo0 := [some (vR 0 21 0), some (vI a1), some (vI a2), some (vI a3), some (vI a4), some (vI a5), some (vI a6), some (vI a7), some (vI a8), some (vI a9), none]) rfl ?_
    exact e_X11_plays_177 d r_X11_plays k_34 hr_X11_plays hk_34 a1 a2 a3 a4 a5 a6 a7 a8 a9 x1.2 _ _ h
def f_X11_plays_140 (r_X11_plays : Int → Int → AM → Option (Int × AM)) (k_34 : Int → Int → Int → Int → Int → Int → AM → Option (Int × AM)) (a1 : Int) (a2 : Int) (a3 : Int) (a4 : Int) (a5 : Int) (a6 : Int) (a7 : Int) (a8 : Int) (s0 : Int) (M : AM) : Option (Int × AM) := if ¬ a7 = 0 then f_X11_plays_165 r_X11_plays k_34 a1 a2 a3 a4 a5 a6 a7 a8 s0 M else (if a3 = 0 then f_X11_plays_165 r_X11_plays k_34 a1 a2 a3 a4 a5 a6 a7 a8 s0 M else (if 0 ≤ o_add 37 a6 ∧ o_add 37 a6 < 1775 then (zlet (am_upd M 5 (Int.toNat (o_add 37 a6)) 0) fun M2 => f_X11_plays_177 r_X11_plays k_34 a1 a2 a3 a4 a5 a6 a7 a8 s0 M2) else none))
theorem e_X11_plays_140 {Y : List (Nat × Nat)} (d : Nat) (r_X11_plays : Int → Int → AM → Option (Int × AM)) (k_34 : Int → Int → Int → Int → Int → Int → AM → Option (Int × AM)) (hr_X11_plays : ∀ (a1 : Int) (a2 : Int) (M : AM) (x : Int) (N : AM), r_X11_plays a1 a2 M = some (x, N) → Ev Y (d + 3) m_X11_plays 0 [some (vR 0 21 0), some (vI a1), some (vI a2), none, none, none, none, none, none, none, none] [] M (some (vI x)) N) (hk_34 : ∀ (a1 : Int) (a2 : Int) (a3 : Int) (a4 : Int) (a5 : Int) (a6 : Int) (M : AM) (x : Int) (N : AM), k_34 a1 a2 a3 a4 a5 a6 M = some (x, N) → Ev Y (d + 4) m_X11_plays 34 [some (vR 0 21 0), some (vI a1), some (vI a2), some (vI a3), some (vI a4), some (vI a5), some (vI a6), none, none, none, none] [] M (some (vI x)) N) (a1 : Int) (a2 : Int) (a3 : Int) (a4 : Int) (a5 : Int) (a6 : Int) (a7 : Int) (a8 : Int) (s0 : Int) (M : AM) (x : Int) (N : AM) (h : f_X11_plays_140 r_X11_plays k_34 a1 a2 a3 a4 a5 a6 a7 a8 s0 M = some (x, N)) : Ev Y (d + 4) m_X11_plays 140 [some (vR 0 21 0), some (vI a1), some (vI a2), some (vI a3), some (vI a4), some (vI a5), some (vI a6), some (vI a7), some (vI a8), none, none] [vI s0] M (some (vI x)) N := by
  unfold f_X11_plays_140 at h
  refine Z_blk k_X11_plays 2 (pc' := 144) (lo' := [some (vR 0 21 0), some (vI a1), some (vI a2), some (vI a3), some (vI a4), some (vI a5), some (vI a6), some (vI a7), some (vI a8), some (vI s0), none]) (st' := [vI a7]) (M1 := M) rfl ?_
  refine Z_if k_X11_plays rfl 165 rfl (fun hc => ?_) (fun hc => ?_)
  · replace h := of_pos hc h
    refine Z_mask [true, true, true, true, true, true, true, true, true, true, false] (lo0 := [some (vR 0 21 0), some (vI a1), some (vI a2), some (vI a3), some (vI a4), some (vI a5), some (vI a6), some (vI a7), some (vI a8), some (vI s0), none]) rfl ?_
    exact e_X11_plays_165 d r_X11_plays k_34 hr_X11_plays hk_34 a1 a2 a3 a4 a5 a6 a7 a8 s0 M _ _ h
  · replace h := of_neg hc h
    refine Z_blk k_X11_plays 1 (pc' := 148) (lo' := [some (vR 0 21 0), some (vI a1), some (vI a2), some (vI a3), some (vI a4), some (vI a5), some (vI a6), some (vI a7), some (vI a8), some (vI s0), none]) (st' := [vI a3]) (M1 := M) rfl ?_
    refine Z_if k_X11_plays rfl 165 rfl (fun hc => ?_) (fun hc => ?_)
    · replace h := of_pos hc h
      refine Z_mask [true, true, true, true, true, true, true, true, true, true, false] (lo0 := [some (vR 0 21 0), some (vI a1), some (vI a2), some (vI a3), some (vI a4), some (vI a5), some (vI a6), some (vI a7), some (vI a8), some (vI s0), none]) rfl ?_
      exact e_X11_plays_165 d r_X11_plays k_34 hr_X11_plays hk_34 a1 a2 a3 a4 a5 a6 a7 a8 s0 M _ _ h
    · replace h := of_neg hc h
      refine Z_blk k_X11_plays 6 (pc' := 161) (lo' := [some (vR 0 21 0), some (vI a1), some (vI a2), some (vI a3), some (vI a4), some (vI a5), some (vI a6), some (vI a7), some (vI a8), some (vI s0), none]) (st' := [vI 0, vI (o_add 37 a6), vR 5 0 1775]) (M1 := M) rfl ?_
      obtain ⟨hc1, h⟩ := of_grd h
      obtain ⟨M2, eM2, h⟩ := of_zlet h
      refine Z_one k_X11_plays rfl (pc' := 162) (lo' := [some (vR 0 21 0), some (vI a1), some (vI a2), some (vI a3), some (vI a4), some (vI a5), some (vI a6), some (vI a7), some (vI a8), some (vI s0), none]) (st' := []) (M1 := M2) (by rw [eM2]; exact if_pos hc1) ?_
      refine Z_blk k_X11_plays 1 (pc' := 177) (lo' := [some (vR 0 21 0), some (vI a1), some (vI a2), some (vI a3), some (vI a4), some (vI a5), some (vI a6), some (vI a7), some (vI a8), some (vI s0), none]) (st' := []) (M1 := M2) rfl ?_
      refine Z_mask [true, true, true, true, true, true, true, true, true, true, false] (lo0 := [some (vR 0 21 0), some (vI a1), some (vI a2), some (vI a3), some (vI a4), some (vI a5), some (vI a6), some (vI a7), some (vI a8), some (vI s0), none]) rfl ?_
      exact e_X11_plays_177 d r_X11_plays k_34 hr_X11_plays hk_34 a1 a2 a3 a4 a5 a6 a7 a8 s0 M2 _ _ h
def f_X11_plays_119 (r_X11_plays : Int → Int → AM → Option (Int × AM)) (k_34 : Int → Int → Int → Int → Int → Int → AM → Option (Int × AM)) (a1 : Int) (a2 : Int) (a3 : Int) (a4 : Int) (a5 : Int) (a6 : Int) (a7 : Int) (s0 : Int) (M : AM) : Option (Int × AM) := if a7 = 0 then (if 0 ≤ o_add 27 a6 ∧ o_add 27 a6 < 1775 then f_X11_plays_140 r_X11_plays k_34 a1 a2 a3 a4 a5 a6 a7 s0 (M 5 (Int.toNat (o_add 27 a6))) M else none) else f_X11_plays_140 r_X11_plays k_34 a1 a2 a3 a4 a5 a6 a7 s0 0 M
theorem e_X11_plays_119 {Y : List (Nat × Nat)} (d : Nat) (r_X11_plays : Int → Int → AM → Option (Int × AM)) (k_34 : Int → Int → Int → Int → Int → Int → AM → Option (Int × AM)) (hr_X11_plays : ∀ (a1 : Int) (a2 : Int) (M : AM) (x : Int) (N : AM), r_X11_plays a1 a2 M = some (x, N) → Ev Y (d + 3) m_X11_plays 0 [some (vR 0 21 0), some (vI a1), some (vI a2), none, none, none, none, none, none, none, none] [] M (some (vI x)) N) (hk_34 : ∀ (a1 : Int) (a2 : Int) (a3 : Int) (a4 : Int) (a5 : Int) (a6 : Int) (M : AM) (x : Int) (N : AM), k_34 a1 a2 a3 a4 a5 a6 M = some (x, N) → Ev Y (d + 4) m_X11_plays 34 [some (vR 0 21 0), some (vI a1), some (vI a2), some (vI a3), some (vI a4), some (vI a5), some (vI a6), none, none, none, none] [] M (some (vI x)) N) (a1 : Int) (a2 : Int) (a3 : Int) (a4 : Int) (a5 : Int) (a6 : Int) (a7 : Int) (s0 : Int) (M : AM) (x : Int) (N : AM) (h : f_X11_plays_119 r_X11_plays k_34 a1 a2 a3 a4 a5 a6 a7 s0 M = some (x, N)) : Ev Y (d + 4) m_X11_plays 119 [some (vR 0 21 0), some (vI a1), some (vI a2), some (vI a3), some (vI a4), some (vI a5), some (vI a6), some (vI a7), none, none, none] [vI s0] M (some (vI x)) N := by
  unfold f_X11_plays_119 at h
  refine Z_blk k_X11_plays 2 (pc' := 123) (lo' := [some (vR 0 21 0), some (vI a1), some (vI a2), some (vI a3), some (vI a4), some (vI a5), some (vI a6), some (vI a7), some (vI s0), none, none]) (st' := [vI a7]) (M1 := M) rfl ?_
  refine Z_if k_X11_plays rfl 130 rfl (fun hc => ?_) (fun hc => ?_)
  · replace h := of_pos hc h
    refine Z_blk k_X11_plays 5 (pc' := 139) (lo' := [some (vR 0 21 0), some (vI a1), some (vI a2), some (vI a3), some (vI a4), some (vI a5), some (vI a6), some (vI a7), some (vI s0), none, none]) (st' := [vI (o_add 27 a6), vR 5 0 1775]) (M1 := M) rfl ?_
    obtain ⟨hc1, h⟩ := of_grd h
    refine Z_one k_X11_plays rfl (pc' := 140) (lo' := [some (vR 0 21 0), some (vI a1), some (vI a2), some (vI a3), some (vI a4), some (vI a5), some (vI a6), some (vI a7), some (vI s0), none, none]) (st' := [vI (M 5 (Int.toNat (o_add 27 a6)))]) (M1 := M) (if_pos hc1) ?_
    refine Z_mask [true, true, true, true, true, true, true, true, true, false, false] (lo0 := [some (vR 0 21 0), some (vI a1), some (vI a2), some (vI a3), some (vI a4), some (vI a5), some (vI a6), some (vI a7), some (vI s0), none, none]) rfl ?_
    exact e_X11_plays_140 d r_X11_plays k_34 hr_X11_plays hk_34 a1 a2 a3 a4 a5 a6 a7 s0 (M 5 (Int.toNat (o_add 27 a6))) M _ _ h
  · replace h := of_neg hc h
    refine Z_blk k_X11_plays 2 (pc' := 140) (lo' := [some (vR 0 21 0), some (vI a1), some (vI a2), some (vI a3), some (vI a4), some (vI a5), some (vI a6), some (vI a7), some (vI s0), none, none]) (st' := [vI 0]) (M1 := M) rfl ?_
    refine Z_mask [true, true, true, true, true, true, true, true, true, false, false] (lo0 := [some (vR 0 21 0), some (vI a1), some (vI a2), some (vI a3), some (vI a4), some (vI a5), some (vI a6), some (vI a7), some (vI s0), none, none]) rfl ?_
    exact e_X11_plays_140 d r_X11_plays k_34 hr_X11_plays hk_34 a1 a2 a3 a4 a5 a6 a7 s0 0 M _ _ h
def f_X11_plays_100 (r_X11_plays : Int → Int → AM → Option (Int × AM)) (k_34 : Int → Int → Int → Int → Int → Int → AM → Option (Int × AM)) (a1 : Int) (a2 : Int) (a3 : Int) (a4 : Int) (a5 : Int) (a6 : Int) (a7 : Int) (M : AM) : Option (Int × AM) := if a7 = 0 then (if 0 ≤ o_add 37 a6 ∧ o_add 37 a6 < 1775 then f_X11_plays_119 r_X11_plays k_34 a1 a2 a3 a4 a5 a6 a7 (M 5 (Int.toNat (o_add 37 a6))) M else none) else f_X11_plays_119 r_X11_plays k_34 a1 a2 a3 a4 a5 a6 a7 0 M
theorem e_X11_plays_100 {Y : List (Nat × Nat)} (d : Nat) (r_X11_plays : Int → Int → AM → Option (Int × AM)) (k_34 : Int → Int → Int → Int → Int → Int → AM → Option (Int × AM)) (hr_X11_plays : ∀ (a1 : Int) (a2 : Int) (M : AM) (x : Int) (N : AM), r_X11_plays a1 a2 M = some (x, N) → Ev Y (d + 3) m_X11_plays 0 [some (vR 0 21 0), some (vI a1), some (vI a2), none, none, none, none, none, none, none, none] [] M (some (vI x)) N) (hk_34 : ∀ (a1 : Int) (a2 : Int) (a3 : Int) (a4 : Int) (a5 : Int) (a6 : Int) (M : AM) (x : Int) (N : AM), k_34 a1 a2 a3 a4 a5 a6 M = some (x, N) → Ev Y (d + 4) m_X11_plays 34 [some (vR 0 21 0), some (vI a1), some (vI a2), some (vI a3), some (vI a4), some (vI a5), some (vI a6), none, none, none, none] [] M (some (vI x)) N) (a1 : Int) (a2 : Int) (a3 : Int) (a4 : Int) (a5 : Int) (a6 : Int) (a7 : Int) (M : AM) (x : Int) (N : AM) (h : f_X11_plays_100 r_X11_plays k_34 a1 a2 a3 a4 a5 a6 a7 M = some (x, N)) : Ev Y (d + 4) m_X11_plays 100 [some (vR 0 21 0), some (vI a1), some (vI a2), some (vI a3), some (vI a4), some (vI a5), some (vI a6), some (vI a7), none, none, none] [] M (some (vI x)) N := by
  unfold f_X11_plays_100 at h
  refine Z_blk k_X11_plays 1 (pc' := 102) (lo' := [some (vR 0 21 0), some (vI a1), some (vI a2), some (vI a3), some (vI a4), some (vI a5), some (vI a6), some (vI a7), none, none, none]) (st' := [vI a7]) (M1 := M) rfl ?_
  refine Z_if k_X11_plays rfl 109 rfl (fun hc => ?_) (fun hc => ?_)
  · replace h := of_pos hc h
    refine Z_blk k_X11_plays 5 (pc' := 118) (lo' := [some (vR 0 21 0), some (vI a1), some (vI a2), some (vI a3), some (vI a4), some (vI a5), some (vI a6), some (vI a7), none, none, none]) (st' := [vI (o_add 37 a6), vR 5 0 1775]) (M1 := M) rfl ?_
    obtain ⟨hc1, h⟩ := of_grd h
    refine Z_one k_X11_plays rfl (pc' := 119) (lo' := [some (vR 0 21 0), some (vI a1), some (vI a2), some (vI a3), some (vI a4), some (vI a5), some (vI a6), some (vI a7), none, none, none]) (st' := [vI (M 5 (Int.toNat (o_add 37 a6)))]) (M1 := M) (if_pos hc1) ?_
    refine Z_mask [true, true, true, true, true, true, true, true, false, false, false] (lo0 := [some (vR 0 21 0), some (vI a1), some (vI a2), some (vI a3), some (vI a4), some (vI a5), some (vI a6), some (vI a7), none, none, none]) rfl ?_
    exact e_X11_plays_119 d r_X11_plays k_34 hr_X11_plays hk_34 a1 a2 a3 a4 a5 a6 a7 (M 5 (Int.toNat (o_add 37 a6))) M _ _ h
  · replace h := of_neg hc h
    refine Z_blk k_X11_plays 2 (pc' := 119) (lo' := [some (vR 0 21 0), some (vI a1), some (vI a2), some (vI a3), some (vI a4), some (vI a5), some (vI a6), some (vI a7), none, none, none]) (st' := [vI 0]) (M1 := M) rfl ?_
    refine Z_mask [true, true, true, true, true, true, true, true, false, false, false] (lo0 := [some (vR 0 21 0), some (vI a1), some (vI a2), some (vI a3), some (vI a4), some (vI a5), some (vI a6), some (vI a7), none, none, none]) rfl ?_
    exact e_X11_plays_119 d r_X11_plays k_34 hr_X11_plays hk_34 a1 a2 a3 a4 a5 a6 a7 0 M _ _ h
def f_X11_plays_61 (r_X11_plays : Int → Int → AM → Option (Int × AM)) (k_34 : Int → Int → Int → Int → Int → Int → AM → Option (Int × AM)) (a1 : Int) (a2 : Int) (a3 : Int) (a4 : Int) (a5 : Int) (a6 : Int) (s0 : Int) (M : AM) : Option (Int × AM) := if ¬ s0 = 0 then f_X11_plays_100 r_X11_plays k_34 a1 a2 a3 a4 a5 a6 s0 M else (if a3 = 0 then ((f_X11_canMend a6 M).bind fun x1 => if ¬ x1.1 = 0 then f_X11_plays_100 r_X11_plays k_34 a1 a2 a3 a4 a5 a6 s0 x1.2 else k_34 a1 a2 a3 a4 a5 (o_add a6 1) x1.2) else (if 0 ≤ o_add 37 a6 ∧ o_add 37 a6 < 1775 then (if ¬ M 5 (Int.toNat (o_add 37 a6)) = 0 then f_X11_plays_100 r_X11_plays k_34 a1 a2 a3 a4 a5 a6 s0 M else k_34 a1 a2 a3 a4 a5 (o_add a6 1) M) else none))
theorem e_X11_plays_61 {Y : List (Nat × Nat)} (d : Nat) (r_X11_plays : Int → Int → AM → Option (Int × AM)) (k_34 : Int → Int → Int → Int → Int → Int → AM → Option (Int × AM)) (hr_X11_plays : ∀ (a1 : Int) (a2 : Int) (M : AM) (x : Int) (N : AM), r_X11_plays a1 a2 M = some (x, N) → Ev Y (d + 3) m_X11_plays 0 [some (vR 0 21 0), some (vI a1), some (vI a2), none, none, none, none, none, none, none, none] [] M (some (vI x)) N) (hk_34 : ∀ (a1 : Int) (a2 : Int) (a3 : Int) (a4 : Int) (a5 : Int) (a6 : Int) (M : AM) (x : Int) (N : AM), k_34 a1 a2 a3 a4 a5 a6 M = some (x, N) → Ev Y (d + 4) m_X11_plays 34 [some (vR 0 21 0), some (vI a1), some (vI a2), some (vI a3), some (vI a4), some (vI a5), some (vI a6), none, none, none, none] [] M (some (vI x)) N) (a1 : Int) (a2 : Int) (a3 : Int) (a4 : Int) (a5 : Int) (a6 : Int) (s0 : Int) (M : AM) (x : Int) (N : AM) (h : f_X11_plays_61 r_X11_plays k_34 a1 a2 a3 a4 a5 a6 s0 M = some (x, N)) : Ev Y (d + 4) m_X11_plays 61 [some (vR 0 21 0), some (vI a1), some (vI a2), some (vI a3), some (vI a4), some (vI a5), some (vI a6), none, none, none, none] [vI s0] M (some (vI x)) N := by
  unfold f_X11_plays_61 at h
  refine Z_blk k_X11_plays 2 (pc' := 65) (lo' := [some (vR 0 21 0), some (vI a1), some (vI a2), some (vI a3), some (vI a4), some (vI a5), some (vI a6), some (vI s0), none, none, none]) (st' := [vI s0]) (M1 := M) rfl ?_
  refine Z_if k_X11_plays rfl 100 rfl (fun hc => ?_) (fun hc => ?_)
  · replace h := of_pos hc h
    refine Z_mask [true, true, true, true, true, true, true, true, false, false, false] (lo0 := [some (vR 0 21 0), some (vI a1), some (vI a2), some (vI a3), some (vI a4), some (vI a5), some (vI a6), some (vI s0), none, none, none]) rfl ?_
    exact e_X11_plays_100 d r_X11_plays k_34 hr_X11_plays hk_34 a1 a2 a3 a4 a5 a6 s0 M _ _ h
  · replace h := of_neg hc h
    refine Z_blk k_X11_plays 1 (pc' := 69) (lo' := [some (vR 0 21 0), some (vI a1), some (vI a2), some (vI a3), some (vI a4), some (vI a5), some (vI a6), some (vI s0), none, none, none]) (st' := [vI a3]) (M1 := M) rfl ?_
    refine Z_if k_X11_plays rfl 88 rfl (fun hc => ?_) (fun hc => ?_)
    · replace h := of_pos hc h
      refine Z_blk k_X11_plays 2 (pc' := 91) (lo' := [some (vR 0 21 0), some (vI a1), some (vI a2), some (vI a3), some (vI a4), some (vI a5), some (vI a6), some (vI s0), none, none, none]) (st' := [vI a6, vR 0 21 0]) (M1 := M) rfl ?_
      obtain ⟨x1, hx1, h⟩ := Option.bind_eq_some_iff.mp h
      refine Z_callV8 k_X11_plays k_X11_canMend rfl rfl (l_11_367) (ci := 11) rfl [vI a6] [] rfl rfl (Nat.le_of_ble_eq_true rfl) (Nat.le_of_ble_eq_true rfl) (e_X11_canMend (d + 3) a6 M _ _ hx1) ?_
      refine Z_if k_X11_plays rfl 100 rfl (fun hc => ?_) (fun hc => ?_)
      · replace h := of_pos hc h
        refine Z_mask [true, true, true, true, true, true, true, true, false, false, false] (lo0 := [some (vR 0 21 0), some (vI a1), some (vI a2), some (vI a3), some (vI a4), some (vI a5), some (vI a6), some (vI s0), none, none, none]) rfl ?_
        exact e_X11_plays_100 d r_X11_plays k_34 hr_X11_plays hk_34 a1 a2 a3 a4 a5 a6 s0 x1.2 _ _ h
      · replace h := of_neg hc h
        refine Z_blk k_X11_plays 3 (pc' := 34) (lo' := [some (vR 0 21 0), some (vI a1), some (vI a2), some (vI a3), some (vI a4), some (vI a5), some (vI (o_add a6 1)), some (vI s0), none, none, none]) (st' := []) (M1 := x1.2) rfl ?_
        refine Z_mask [true, true, true, true, true, true, true, false, false, false, false] (lo0 := [some (vR 0 21 0), some (vI a1), some (vI a2), some (vI a3), some (vI a4), some (vI a5), some (vI (o_add a6 1)), none, none, none, none]) rfl ?_
        exact hk_34 a1 a2 a3 a4 a5 (o_add a6 1) x1.2 _ _ h
    · replace h := of_neg hc h
      refine Z_blk k_X11_plays 5 (pc' := 81) (lo' := [some (vR 0 21 0), some (vI a1), some (vI a2), some (vI a3), some (vI a4), some (vI a5), some (vI a6), some (vI s0), none, none, none]) (st' := [vI (o_add 37 a6), vR 5 0 1775]) (M1 := M) rfl ?_
      obtain ⟨hc2, h⟩ := of_grd h
      refine Z_one k_X11_plays rfl (pc' := 82) (lo' := [some (vR 0 21 0), some (vI a1), some (vI a2), some (vI a3), some (vI a4), some (vI a5), some (vI a6), some (vI s0), none, none, none]) (st' := [vI (M 5 (Int.toNat (o_add 37 a6)))]) (M1 := M) (if_pos hc2) ?_
      refine Z_if k_X11_plays rfl 100 rfl (fun hc => ?_) (fun hc => ?_)
      · replace h := of_pos hc h
        refine Z_mask [true, true, true, true, true, true, true, true, false, false, false] (lo0 := [some (vR 0 21 0), some (vI a1), some (vI a2), some (vI a3), some (vI a4), some (vI a5), some (vI a6), some (vI s0), none, none, none]) rfl ?_
        exact e_X11_plays_100 d r_X11_plays k_34 hr_X11_plays hk_34 a1 a2 a3 a4 a5 a6 s0 M _ _ h
      · replace h := of_neg hc h
        refine Z_blk k_X11_plays 3 (pc' := 34) (lo' := [some (vR 0 21 0), some (vI a1), some (vI a2), some (vI a3), some (vI a4), some (vI a5), some (vI (o_add a6 1)), some (vI s0), none, none, none]) (st' := []) (M1 := M) rfl ?_
        refine Z_mask [true, true, true, true, true, true, true, false, false, false, false] (lo0 := [some (vR 0 21 0), some (vI a1), some (vI a2), some (vI a3), some (vI a4), some (vI a5), some (vI (o_add a6 1)), none, none, none, none]) rfl ?_
        exact hk_34 a1 a2 a3 a4 a5 (o_add a6 1) M _ _ h
def f_X11_plays_34 (r_X11_plays : Int → Int → AM → Option (Int × AM)) : Nat → Int → Int → Int → Int → Int → Int → AM → Option (Int × AM)
  | 0, _, _, _, _, _, _, _ => none
  | n + 1, a1, a2, a3, a4, a5, a6, M => if M 5 (Int.toNat 1) < a6 then (if ¬ a1 = 0 then some (a4, M) else (zlet (am_upd M 0 32 a5) fun M1 => some (a4, M1))) else (if ¬ a6 = M 5 (Int.toNat 1) then f_X11_plays_61 r_X11_plays (f_X11_plays_34 r_X11_plays n) a1 a2 a3 a4 a5 a6 0 M else f_X11_plays_61 r_X11_plays (f_X11_plays_34 r_X11_plays n) a1 a2 a3 a4 a5 a6 1 M)
theorem e_X11_plays_34 {Y : List (Nat × Nat)} (d : Nat) (r_X11_plays : Int → Int → AM → Option (Int × AM)) (hr_X11_plays : ∀ (a1 : Int) (a2 : Int) (M : AM) (x : Int) (N : AM), r_X11_plays a1 a2 M = some (x, N) → Ev Y (d + 3) m_X11_plays 0 [some (vR 0 21 0), some (vI a1), some (vI a2), none, none, none, none, none, none, none, none] [] M (some (vI x)) N) : ∀ (n : Nat) (a1 : Int) (a2 : Int) (a3 : Int) (a4 : Int) (a5 : Int) (a6 : Int) (M : AM) (x : Int) (N : AM), f_X11_plays_34 r_X11_plays n a1 a2 a3 a4 a5 a6 M = some (x, N) → Ev Y (d + 4) m_X11_plays 34 [some (vR 0 21 0), some (vI a1), some (vI a2), some (vI a3), some (vI a4), some (vI a5), some (vI a6), none, none, none, none] [] M (some (vI x)) N := by
  intro n
  induction n with
  | zero => intro a1 a2 a3 a4 a5 a6 M x N h; cases h
  | succ n ih =>
    intro a1 a2 a3 a4 a5 a6 M x N h
    simp only [f_X11_plays_34] at h
    refine Z_blk k_X11_plays 4 (pc' := 41) (lo' := [some (vR 0 21 0), some (vI a1), some (vI a2), some (vI a3), some (vI a4), some (vI a5), some (vI a6), none, none, none, none]) (st' := [vI 1, vR 5 0 1775, vI a6]) (M1 := M) rfl ?_
    refine Z_one k_X11_plays rfl (pc' := 42) (lo' := [some (vR 0 21 0), some (vI a1), some (vI a2), some (vI a3), some (vI a4), some (vI a5), some (vI a6), none, none, none, none]) (st' := [vI (M 5 (Int.toNat 1)), vI a6]) (M1 := M) (rfl) ?_
    refine Z_icmp k_X11_plays rfl 259 rfl (fun hc => ?_) (fun hc => ?_)
    · replace h := of_pos hc h
      refine Z_blk k_X11_plays 1 (pc' := 260) (lo' := [some (vR 0 21 0), some (vI a1), some (vI a2), some (vI a3), some (vI a4), some (vI a5), some (vI a6), none, none, none, none]) (st' := [vI a1]) (M1 := M) rfl ?_
      refine Z_if k_X11_plays rfl 269 rfl (fun hc => ?_) (fun hc => ?_)
      · replace h := of_pos hc h
        refine Z_blk k_X11_plays 1 (pc' := 271) (lo' := [some (vR 0 21 0), some (vI a1), some (vI a2), some (vI a3), some (vI a4), some (vI a5), some (vI a6), none, none, none, none]) (st' := [vI a4]) (M1 := M) rfl ?_
        cases h
        exact Z_ret ⟨Or.inl rfl, _, rfl⟩ rfl
      · replace h := of_neg hc h
        obtain ⟨M1, eM1, h⟩ := of_zlet h
        refine Z_blk k_X11_plays 3 (pc' := 269) (lo' := [some (vR 0 21 0), some (vI a1), some (vI a2), some (vI a3), some (vI a4), some (vI a5), some (vI a6), none, none, none, none]) (st' := []) (M1 := M1) (by rw [eM1]; rfl) ?_
        refine Z_blk k_X11_plays 1 (pc' := 271) (lo' := [some (vR 0 21 0), some (vI a1), some (vI a2), some (vI a3), some (vI a4), some (vI a5), some (vI a6), none, none, none, none]) (st' := [vI a4]) (M1 := M1) rfl ?_
        cases h
        exact Z_ret ⟨Or.inl rfl, _, rfl⟩ rfl
    · replace h := of_neg hc h
      refine Z_blk k_X11_plays 4 (pc' := 52) (lo' := [some (vR 0 21 0), some (vI a1), some (vI a2), some (vI a3), some (vI a4), some (vI a5), some (vI a6), none, none, none, none]) (st' := [vI 1, vR 5 0 1775, vI a6]) (M1 := M) rfl ?_
      refine Z_one k_X11_plays rfl (pc' := 53) (lo' := [some (vR 0 21 0), some (vI a1), some (vI a2), some (vI a3), some (vI a4), some (vI a5), some (vI a6), none, none, none, none]) (st' := [vI (M 5 (Int.toNat 1)), vI a6]) (M1 := M) (rfl) ?_
      refine Z_icmp k_X11_plays rfl 60 rfl (fun hc => ?_) (fun hc => ?_)
      · replace h := of_pos hc h
        refine Z_blk k_X11_plays 1 (pc' := 61) (lo' := [some (vR 0 21 0), some (vI a1), some (vI a2), some (vI a3), some (vI a4), some (vI a5), some (vI a6), none, none, none, none]) (st' := [vI 0]) (M1 := M) rfl ?_
        refine Z_mask [true, true, true, true, true, true, true, false, false, false, false] (lo0 := [some (vR 0 21 0), some (vI a1), some (vI a2), some (vI a3), some (vI a4), some (vI a5), some (vI a6), none, none, none, none]) rfl ?_
        exact e_X11_plays_61 d r_X11_plays (f_X11_plays_34 r_X11_plays n) hr_X11_plays ih a1 a2 a3 a4 a5 a6 0 M _ _ h
      · replace h := of_neg hc h
        refine Z_blk k_X11_plays 2 (pc' := 61) (lo' := [some (vR 0 21 0), some (vI a1), some (vI a2), some (vI a3), some (vI a4), some (vI a5), some (vI a6), none, none, none, none]) (st' := [vI 1]) (M1 := M) rfl ?_
        refine Z_mask [true, true, true, true, true, true, true, false, false, false, false] (lo0 := [some (vR 0 21 0), some (vI a1), some (vI a2), some (vI a3), some (vI a4), some (vI a5), some (vI a6), none, none, none, none]) rfl ?_
        exact e_X11_plays_61 d r_X11_plays (f_X11_plays_34 r_X11_plays n) hr_X11_plays ih a1 a2 a3 a4 a5 a6 1 M _ _ h
def fo_X11_plays (r_X11_plays : Int → Int → AM → Option (Int × AM)) (a1 : Int) (a2 : Int) (M : AM) : Option (Int × AM) := if ¬ a1 = a2 then (if ¬ o_rem a1 2 = 0 then f_X11_plays_34 r_X11_plays zB a1 a2 0 0 (-1) 0 M else f_X11_plays_34 r_X11_plays zB a1 a2 1 0 (-1) 0 M) else ((f_X11_rung M).bind fun x1 => (f_X11_sizeOf x1.1 x1.2).bind fun x2 => some (x2.1, x2.2))
theorem eo_X11_plays {Y : List (Nat × Nat)} (d : Nat) (r_X11_plays : Int → Int → AM → Option (Int × AM)) (hr_X11_plays : ∀ (a1 : Int) (a2 : Int) (M : AM) (x : Int) (N : AM), r_X11_plays a1 a2 M = some (x, N) → Ev Y (d + 3) m_X11_plays 0 [some (vR 0 21 0), some (vI a1), some (vI a2), none, none, none, none, none, none, none, none] [] M (some (vI x)) N) (a1 : Int) (a2 : Int) (M : AM) (x : Int) (N : AM) (h : fo_X11_plays r_X11_plays a1 a2 M = some (x, N)) : Ev Y (d + 4) m_X11_plays 0 [some (vR 0 21 0), some (vI a1), some (vI a2), none, none, none, none, none, none, none, none] [] M (some (vI x)) N := by
  unfold fo_X11_plays at h
  refine Z_blk k_X11_plays 2 (pc' := 2) (lo' := [some (vR 0 21 0), some (vI a1), some (vI a2), none, none, none, none, none, none, none, none]) (st' := [vI a2, vI a1]) (M1 := M) rfl ?_
  refine Z_icmp k_X11_plays rfl 13 rfl (fun hc => ?_) (fun hc => ?_)
  · replace h := of_pos hc h
    refine Z_blk k_X11_plays 2 (pc' := 15) (lo' := [some (vR 0 21 0), some (vI a1), some (vI a2), none, none, none, none, none, none, none, none]) (st' := [vI 2, vI a1]) (M1 := M) rfl ?_
    refine Z_one k_X11_plays rfl (pc' := 16) (lo' := [some (vR 0 21 0), some (vI a1), some (vI a2), none, none, none, none, none, none, none, none]) (st' := [vI (o_rem a1 2)]) (M1 := M) (rfl) ?_
    refine Z_if k_X11_plays rfl 23 rfl (fun hc => ?_) (fun hc => ?_)
    · replace h := of_pos hc h
      refine Z_blk k_X11_plays 8 (pc' := 34) (lo' := [some (vR 0 21 0), some (vI a1), some (vI a2), some (vI 0), some (vI 0), some (vI (-1)), some (vI 0), none, none, none, none]) (st' := []) (M1 := M) rfl ?_
      refine Z_mask [true, true, true, true, true, true, true, false, false, false, false] (lo0 := [some (vR 0 21 0), some (vI a1), some (vI a2), some (vI 0), some (vI 0), some (vI (-1)), some (vI 0), none, none, none, none]) rfl ?_
      exact e_X11_plays_34 d r_X11_plays hr_X11_plays zB a1 a2 0 0 (-1) 0 M _ _ h
    · replace h := of_neg hc h
      refine Z_blk k_X11_plays 9 (pc' := 34) (lo' := [some (vR 0 21 0), some (vI a1), some (vI a2), some (vI 1), some (vI 0), some (vI (-1)), some (vI 0), none, none, none, none]) (st' := []) (M1 := M) rfl ?_
      refine Z_mask [true, true, true, true, true, true, true, false, false, false, false] (lo0 := [some (vR 0 21 0), some (vI a1), some (vI a2), some (vI 1), some (vI 0), some (vI (-1)), some (vI 0), none, none, none, none]) rfl ?_
      exact e_X11_plays_34 d r_X11_plays hr_X11_plays zB a1 a2 1 0 (-1) 0 M _ _ h
  · replace h := of_neg hc h
    refine Z_blk k_X11_plays 1 (pc' := 6) (lo' := [some (vR 0 21 0), some (vI a1), some (vI a2), none, none, none, none, none, none, none, none]) (st' := [vR 0 21 0]) (M1 := M) rfl ?_
    obtain ⟨x1, hx1, h⟩ := Option.bind_eq_some_iff.mp h
    refine Z_callV8 k_X11_plays k_X11_rung rfl rfl (l_11_332) (ci := 11) rfl [] [] rfl rfl (Nat.le_of_ble_eq_true rfl) (Nat.le_of_ble_eq_true rfl) (e_X11_rung (d + 0) M _ _ hx1) ?_
    obtain ⟨x2, hx2, h⟩ := Option.bind_eq_some_iff.mp h
    refine Z_callS8 k_X11_plays k_X11_sizeOf rfl rfl (l_11_403) [vI x1.1] [] rfl rfl (Nat.le_of_ble_eq_true rfl) (Nat.le_of_ble_eq_true rfl) (e_X11_sizeOf (d + 2) x1.1 x1.2 _ _ hx2) ?_
    cases h
    exact Z_ret ⟨Or.inl rfl, _, rfl⟩ rfl
def fc_X11_plays : Nat → Int → Int → AM → Option (Int × AM)
  | 0, _, _, _ => none
  | n + 1, a1, a2, M => fo_X11_plays (fc_X11_plays n) a1 a2 M
theorem ec_X11_plays {Y : List (Nat × Nat)} (d : Nat) : ∀ (n : Nat) (a1 : Int) (a2 : Int) (M : AM) (x : Int) (N : AM), fc_X11_plays n a1 a2 M = some (x, N) → Ev Y (d + 1 * n + 3) m_X11_plays 0 [some (vR 0 21 0), some (vI a1), some (vI a2), none, none, none, none, none, none, none, none] [] M (some (vI x)) N := by
  intro n
  induction n with
  | zero => intro a1 a2 M x N h; cases h
  | succ n ih =>
    intro a1 a2 M x N h
    simp only [fc_X11_plays] at h
    exact Ev_cast (by omega) (eo_X11_plays (d + n) (fc_X11_plays n) (fun a1 a2 M x N h => Ev_cast (by omega) (ih a1 a2 M x N h)) a1 a2 M _ _ h)
def f_X11_plays (a1 : Int) (a2 : Int) (M : AM) : Option (Int × AM) := fc_X11_plays 6 a1 a2 M
theorem e_X11_plays {Y : List (Nat × Nat)} (d : Nat) (a1 : Int) (a2 : Int) (M : AM) (x : Int) (N : AM) (h : f_X11_plays a1 a2 M = some (x, N)) : Ev Y (d + 9) m_X11_plays 0 [some (vR 0 21 0), some (vI a1), some (vI a2), none, none, none, none, none, none, none, none] [] M (some (vI x)) N := Ev_cast (by omega) (ec_X11_plays d 6 a1 a2 M _ _ h)
def f_X11_game (a1 : Int) (M : AM) : Option (Int × AM) := zlet (am_upd M 0 1 0) fun M1 => zlet (am_upd M1 0 0 0) fun M2 => (f_X11_isIn a1 0 3 M2).bind fun x3 => if x3.1 = 0 then ((f_X11_refuse 5 x3.2).bind fun x4 => some (x4.1, x4.2)) else ((f_X11_plays 0 a1 x3.2).bind fun x5 => some (x5.1, x5.2))
theorem e_X11_game {Y : List (Nat × Nat)} (d : Nat) (a1 : Int) (M : AM) (x : Int) (N : AM) (h : f_X11_game a1 M = some (x, N)) : Ev Y (d + 10) m_X11_game 0 [some (vR 0 21 0), some (vI a1)] [] M (some (vI x)) N := by
  unfold f_X11_game at h
  obtain ⟨M1, eM1, h⟩ := of_zlet h
  refine Z_blk k_X11_game 3 (pc' := 5) (lo' := [some (vR 0 21 0), some (vI a1)]) (st' := []) (M1 := M1) (by rw [eM1]; rfl) ?_
  obtain ⟨M2, eM2, h⟩ := of_zlet h
  refine Z_blk k_X11_game 3 (pc' := 10) (lo' := [some (vR 0 21 0), some (vI a1)]) (st' := []) (M1 := M2) (by rw [eM2]; rfl) ?_
  refine Z_blk k_X11_game 4 (pc' := 16) (lo' := [some (vR 0 21 0), some (vI a1)]) (st' := [vL 3, vL 0, vL a1]) (M1 := M2) rfl ?_
  obtain ⟨x3, hx3, h⟩ := Option.bind_eq_some_iff.mp h
  refine Z_callS8 k_X11_game k_X11_isIn rfl rfl (l_11_104) [vL a1, vL 0, vL 3] [] rfl rfl (Nat.le_of_ble_eq_true rfl) (Nat.le_of_ble_eq_true rfl) (e_X11_isIn (d + 9) a1 0 3 M2 _ _ hx3) ?_
  refine Z_if k_X11_game rfl 31 rfl (fun hc => ?_) (fun hc => ?_)
  · replace h := of_pos hc h
    refine Z_blk k_X11_game 2 (pc' := 33) (lo' := [some (vR 0 21 0), some (vI a1)]) (st' := [vI 5, vR 0 21 0]) (M1 := x3.2) rfl ?_
    obtain ⟨x4, hx4, h⟩ := Option.bind_eq_some_iff.mp h
    refine Z_callV8 k_X11_game k_X11_refuse rfl rfl (l_11_326) (ci := 11) rfl [vI 5] [] rfl rfl (Nat.le_of_ble_eq_true rfl) (Nat.le_of_ble_eq_true rfl) (e_X11_refuse (d + 9) 5 x3.2 _ _ hx4) ?_
    cases h
    exact Z_ret ⟨Or.inl rfl, _, rfl⟩ rfl
  · replace h := of_neg hc h
    refine Z_blk k_X11_game 3 (pc' := 25) (lo' := [some (vR 0 21 0), some (vI a1)]) (st' := [vI a1, vI 0, vR 0 21 0]) (M1 := x3.2) rfl ?_
    obtain ⟨x5, hx5, h⟩ := Option.bind_eq_some_iff.mp h
    refine Z_callV8 k_X11_game k_X11_plays rfl rfl (l_11_430) (ci := 11) rfl [vI 0, vI a1] [] rfl rfl (Nat.le_of_ble_eq_true rfl) (Nat.le_of_ble_eq_true rfl) (e_X11_plays (d + 0) 0 a1 x3.2 _ _ hx5) ?_
    refine Z_blk k_X11_game 1 (pc' := 36) (lo' := [some (vR 0 21 0), some (vI a1)]) (st' := [vI x5.1]) (M1 := x5.2) rfl ?_
    cases h
    exact Z_ret ⟨Or.inl rfl, _, rfl⟩ rfl
def f_X11_moveOf (a1 : Int) (M : AM) : Option (Int × AM) := zlet (am_upd M 0 1 0) fun M1 => zlet (am_upd M1 0 0 0) fun M2 => (f_X11_isIn a1 1 3 M2).bind fun x3 => if ¬ x3.1 = 0 then ((f_X11_plays 0 a1 x3.2).bind fun x4 => if ¬ x4.2 0 32 = x4.2 5 (Int.toNat 1) then some (x4.2 0 32, x4.2) else ((f_X11_refuse 8 x4.2).bind fun x5 => some (x5.1, x5.2))) else ((f_X11_refuse 5 x3.2).bind fun x6 => some (x6.1, x6.2))
theorem e_X11_moveOf {Y : List (Nat × Nat)} (d : Nat) (a1 : Int) (M : AM) (x : Int) (N : AM) (h : f_X11_moveOf a1 M = some (x, N)) : Ev Y (d + 10) m_X11_moveOf 0 [some (vR 0 21 0), some (vI a1)] [] M (some (vI x)) N := by
  unfold f_X11_moveOf at h
  obtain ⟨M1, eM1, h⟩ := of_zlet h
  refine Z_blk k_X11_moveOf 3 (pc' := 5) (lo' := [some (vR 0 21 0), some (vI a1)]) (st' := []) (M1 := M1) (by rw [eM1]; rfl) ?_
  obtain ⟨M2, eM2, h⟩ := of_zlet h
  refine Z_blk k_X11_moveOf 3 (pc' := 10) (lo' := [some (vR 0 21 0), some (vI a1)]) (st' := []) (M1 := M2) (by rw [eM2]; rfl) ?_
  refine Z_blk k_X11_moveOf 4 (pc' := 16) (lo' := [some (vR 0 21 0), some (vI a1)]) (st' := [vL 3, vL 1, vL a1]) (M1 := M2) rfl ?_
  obtain ⟨x3, hx3, h⟩ := Option.bind_eq_some_iff.mp h
  refine Z_callS8 k_X11_moveOf k_X11_isIn rfl rfl (l_11_104) [vL a1, vL 1, vL 3] [] rfl rfl (Nat.le_of_ble_eq_true rfl) (Nat.le_of_ble_eq_true rfl) (e_X11_isIn (d + 9) a1 1 3 M2 _ _ hx3) ?_
  refine Z_if k_X11_moveOf rfl 28 rfl (fun hc => ?_) (fun hc => ?_)
  · replace h := of_pos hc h
    refine Z_blk k_X11_moveOf 3 (pc' := 31) (lo' := [some (vR 0 21 0), some (vI a1)]) (st' := [vI a1, vI 0, vR 0 21 0]) (M1 := x3.2) rfl ?_
    obtain ⟨x4, hx4, h⟩ := Option.bind_eq_some_iff.mp h
    refine Z_callV8 k_X11_moveOf k_X11_plays rfl rfl (l_11_430) (ci := 11) rfl [vI 0, vI a1] [] rfl rfl (Nat.le_of_ble_eq_true rfl) (Nat.le_of_ble_eq_true rfl) (e_X11_plays (d + 0) 0 a1 x3.2 _ _ hx4) ?_
    refine Z_blk k_X11_moveOf 6 (pc' := 44) (lo' := [some (vR 0 21 0), some (vI a1)]) (st' := [vI 1, vR 5 0 1775, vI (x4.2 0 32)]) (M1 := x4.2) rfl ?_
    refine Z_one k_X11_moveOf rfl (pc' := 45) (lo' := [some (vR 0 21 0), some (vI a1)]) (st' := [vI (x4.2 5 (Int.toNat 1)), vI (x4.2 0 32)]) (M1 := x4.2) (rfl) ?_
    refine Z_icmp k_X11_moveOf rfl 57 rfl (fun hc => ?_) (fun hc => ?_)
    · replace h := of_pos hc h
      refine Z_blk k_X11_moveOf 2 (pc' := 61) (lo' := [some (vR 0 21 0), some (vI a1)]) (st' := [vI (x4.2 0 32)]) (M1 := x4.2) rfl ?_
      cases h
      exact Z_ret ⟨Or.inl rfl, _, rfl⟩ rfl
    · replace h := of_neg hc h
      refine Z_blk k_X11_moveOf 2 (pc' := 51) (lo' := [some (vR 0 21 0), some (vI a1)]) (st' := [vI 8, vR 0 21 0]) (M1 := x4.2) rfl ?_
      obtain ⟨x5, hx5, h⟩ := Option.bind_eq_some_iff.mp h
      refine Z_callV8 k_X11_moveOf k_X11_refuse rfl rfl (l_11_326) (ci := 11) rfl [vI 8] [] rfl rfl (Nat.le_of_ble_eq_true rfl) (Nat.le_of_ble_eq_true rfl) (e_X11_refuse (d + 9) 8 x4.2 _ _ hx5) ?_
      refine Z_blk k_X11_moveOf 1 (pc' := 61) (lo' := [some (vR 0 21 0), some (vI a1)]) (st' := [vI x5.1]) (M1 := x5.2) rfl ?_
      cases h
      exact Z_ret ⟨Or.inl rfl, _, rfl⟩ rfl
  · replace h := of_neg hc h
    refine Z_blk k_X11_moveOf 2 (pc' := 24) (lo' := [some (vR 0 21 0), some (vI a1)]) (st' := [vI 5, vR 0 21 0]) (M1 := x3.2) rfl ?_
    obtain ⟨x6, hx6, h⟩ := Option.bind_eq_some_iff.mp h
    refine Z_callV8 k_X11_moveOf k_X11_refuse rfl rfl (l_11_326) (ci := 11) rfl [vI 5] [] rfl rfl (Nat.le_of_ble_eq_true rfl) (Nat.le_of_ble_eq_true rfl) (e_X11_refuse (d + 9) 5 x3.2 _ _ hx6) ?_
    cases h
    exact Z_ret ⟨Or.inl rfl, _, rfl⟩ rfl
theorem l_11_436 : zhas 8210 (Jvm.Cond.methodLink "BellPullHouseModel" 436 yX11_fraction) = true := by decide +kernel
def f_X11_lasts_146 (k_75 : Int → Int → Int → Int → Int → AM → Option (Int × AM)) (k_99 : Int → Int → Int → Int → Int → Int → Int → AM → Option (Int × AM)) (a1 : Int) (a2 : Int) (a3 : Int) (a5 : Int) (a7 : Int) (a8 : Int) (a10 : Int) (r0 : Nat) (s1 : Int) (s2 : Int) (M : AM) : Option (Int × AM) := if 0 ≤ s1 ∧ s1 < 1775 then (zlet (am_upd M r0 (Int.toNat s1) s2) fun M2 => (f_X11_has a7 a10 M2).bind fun x3 => if x3.1 = 0 then k_99 a1 a2 a3 a5 a7 (l_mul a8 (o_sub 16 (x3.2 5 (Int.toNat 4)))) (o_add a10 1) x3.2 else k_99 a1 a2 a3 a5 a7 (l_mul a8 (x3.2 5 (Int.toNat 4))) (o_add a10 1) x3.2) else none
theorem e_X11_lasts_146 {Y : List (Nat × Nat)} (d : Nat) (k_75 : Int → Int → Int → Int → Int → AM → Option (Int × AM)) (k_99 : Int → Int → Int → Int → Int → Int → Int → AM → Option (Int × AM)) (hk_75 : ∀ (a1 : Int) (a2 : Int) (a3 : Int) (a5 : Int) (a7 : Int) (M : AM) (x : Int) (N : AM), k_75 a1 a2 a3 a5 a7 M = some (x, N) → Ev Y (d + 4) m_X11_lasts 75 [some (vR 0 21 0), some (vI a1), some (vI a2), some (vL a3), none, some (vL a5), none, some (vI a7), none, none, none] [] M (some (vI x)) N) (hk_99 : ∀ (a1 : Int) (a2 : Int) (a3 : Int) (a5 : Int) (a7 : Int) (a8 : Int) (a10 : Int) (M : AM) (x : Int) (N : AM), k_99 a1 a2 a3 a5 a7 a8 a10 M = some (x, N) → Ev Y (d + 4) m_X11_lasts 99 [some (vR 0 21 0), some (vI a1), some (vI a2), some (vL a3), none, some (vL a5), none, some (vI a7), some (vL a8), none, some (vI a10)] [] M (some (vI x)) N) (a1 : Int) (a2 : Int) (a3 : Int) (a5 : Int) (a7 : Int) (a8 : Int) (a10 : Int) (r0 : Nat) (s1 : Int) (s2 : Int) (M : AM) (x : Int) (N : AM) (h : f_X11_lasts_146 k_75 k_99 a1 a2 a3 a5 a7 a8 a10 r0 s1 s2 M = some (x, N)) : Ev Y (d + 4) m_X11_lasts 146 [some (vR 0 21 0), some (vI a1), some (vI a2), some (vL a3), none, some (vL a5), none, some (vI a7), some (vL a8), none, some (vI a10)] [vI s2, vI s1, vR r0 0 1775] M (some (vI x)) N := by
  unfold f_X11_lasts_146 at h
  obtain ⟨hc1, h⟩ := of_grd h
  obtain ⟨M2, eM2, h⟩ := of_zlet h
  refine Z_one k_X11_lasts rfl (pc' := 147) (lo' := [some (vR 0 21 0), some (vI a1), some (vI a2), some (vL a3), none, some (vL a5), none, some (vI a7), some (vL a8), none, some (vI a10)]) (st' := []) (M1 := M2) (by rw [eM2]; exact if_pos hc1) ?_
  refine Z_blk k_X11_lasts 3 (pc' := 153) (lo' := [some (vR 0 21 0), some (vI a1), some (vI a2), some (vL a3), none, some (vL a5), none, some (vI a7), some (vL a8), none, some (vI a10)]) (st' := [vI a10, vI a7, vL a8]) (M1 := M2) rfl ?_
  obtain ⟨x3, hx3, h⟩ := Option.bind_eq_some_iff.mp h
  refine Z_callS8 k_X11_lasts k_X11_has rfl rfl (l_11_108) [vI a7, vI a10] [vL a8] rfl rfl (Nat.le_of_ble_eq_true rfl) (Nat.le_of_ble_eq_true rfl) (e_X11_has (d + 3) a7 a10 M2 _ _ hx3) ?_
  refine Z_if k_X11_lasts rfl 169 rfl (fun hc => ?_) (fun hc => ?_)
  · replace h := of_pos hc h
    refine Z_blk k_X11_lasts 4 (pc' := 176) (lo' := [some (vR 0 21 0), some (vI a1), some (vI a2), some (vL a3), none, some (vL a5), none, some (vI a7), some (vL a8), none, some (vI a10)]) (st' := [vI 4, vR 5 0 1775, vI 16, vL a8]) (M1 := x3.2) rfl ?_
    refine Z_one k_X11_lasts rfl (pc' := 177) (lo' := [some (vR 0 21 0), some (vI a1), some (vI a2), some (vL a3), none, some (vL a5), none, some (vI a7), some (vL a8), none, some (vI a10)]) (st' := [vI (x3.2 5 (Int.toNat 4)), vI 16, vL a8]) (M1 := x3.2) (rfl) ?_
    refine Z_blk k_X11_lasts 6 (pc' := 99) (lo' := [some (vR 0 21 0), some (vI a1), some (vI a2), some (vL a3), none, some (vL a5), none, some (vI a7), some (vL (l_mul a8 (o_sub 16 (x3.2 5 (Int.toNat 4))))), none, some (vI (o_add a10 1))]) (st' := []) (M1 := x3.2) rfl ?_
    refine Z_mask [true, true, true, true, false, true, false, true, true, false, true] (lo0 := [some (vR 0 21 0), some (vI a1), some (vI a2), some (vL a3), none, some (vL a5), none, some (vI a7), some (vL (l_mul a8 (o_sub 16 (x3.2 5 (Int.toNat 4))))), none, some (vI (o_add a10 1))]) rfl ?_
    exact hk_99 a1 a2 a3 a5 a7 (l_mul a8 (o_sub 16 (x3.2 5 (Int.toNat 4)))) (o_add a10 1) x3.2 _ _ h
  · replace h := of_neg hc h
    refine Z_blk k_X11_lasts 3 (pc' := 164) (lo' := [some (vR 0 21 0), some (vI a1), some (vI a2), some (vL a3), none, some (vL a5), none, some (vI a7), some (vL a8), none, some (vI a10)]) (st' := [vI 4, vR 5 0 1775, vL a8]) (M1 := x3.2) rfl ?_
    refine Z_one k_X11_lasts rfl (pc' := 165) (lo' := [some (vR 0 21 0), some (vI a1), some (vI a2), some (vL a3), none, some (vL a5), none, some (vI a7), some (vL a8), none, some (vI a10)]) (st' := [vI (x3.2 5 (Int.toNat 4)), vL a8]) (M1 := x3.2) (rfl) ?_
    refine Z_blk k_X11_lasts 6 (pc' := 99) (lo' := [some (vR 0 21 0), some (vI a1), some (vI a2), some (vL a3), none, some (vL a5), none, some (vI a7), some (vL (l_mul a8 (x3.2 5 (Int.toNat 4)))), none, some (vI (o_add a10 1))]) (st' := []) (M1 := x3.2) rfl ?_
    refine Z_mask [true, true, true, true, false, true, false, true, true, false, true] (lo0 := [some (vR 0 21 0), some (vI a1), some (vI a2), some (vL a3), none, some (vL a5), none, some (vI a7), some (vL (l_mul a8 (x3.2 5 (Int.toNat 4)))), none, some (vI (o_add a10 1))]) rfl ?_
    exact hk_99 a1 a2 a3 a5 a7 (l_mul a8 (x3.2 5 (Int.toNat 4))) (o_add a10 1) x3.2 _ _ h
def f_X11_lasts_99 (k_75 : Int → Int → Int → Int → Int → AM → Option (Int × AM)) : Nat → Int → Int → Int → Int → Int → Int → Int → AM → Option (Int × AM)
  | 0, _, _, _, _, _, _, _, _ => none
  | n + 1, a1, a2, a3, a5, a7, a8, a10, M => if M 5 (Int.toNat 1) ≤ a10 then ((f_X11_rung M).bind fun x1 => (f_X11_has x1.1 a1 x1.2).bind fun x2 => if x2.1 = 0 then k_75 a1 a2 (l_add a3 0) a5 (o_add a7 1) x2.2 else k_75 a1 a2 (l_add a3 a8) a5 (o_add a7 1) x2.2) else ((f_X11_has a2 a10 M).bind fun x3 => if ¬ x3.1 = 0 then ((f_X11_has a7 a10 x3.2).bind fun x4 => if x4.1 = 0 then f_X11_lasts_146 k_75 (f_X11_lasts_99 k_75 n) a1 a2 a3 a5 a7 a8 a10 5 (o_add 37 a10) 1 x4.2 else f_X11_lasts_146 k_75 (f_X11_lasts_99 k_75 n) a1 a2 a3 a5 a7 a8 a10 5 (o_add 37 a10) 0 x4.2) else f_X11_lasts_99 k_75 n a1 a2 a3 a5 a7 a8 (o_add a10 1) x3.2)
theorem e_X11_lasts_99 {Y : List (Nat × Nat)} (d : Nat) (k_75 : Int → Int → Int → Int → Int → AM → Option (Int × AM)) (hk_75 : ∀ (a1 : Int) (a2 : Int) (a3 : Int) (a5 : Int) (a7 : Int) (M : AM) (x : Int) (N : AM), k_75 a1 a2 a3 a5 a7 M = some (x, N) → Ev Y (d + 4) m_X11_lasts 75 [some (vR 0 21 0), some (vI a1), some (vI a2), some (vL a3), none, some (vL a5), none, some (vI a7), none, none, none] [] M (some (vI x)) N) : ∀ (n : Nat) (a1 : Int) (a2 : Int) (a3 : Int) (a5 : Int) (a7 : Int) (a8 : Int) (a10 : Int) (M : AM) (x : Int) (N : AM), f_X11_lasts_99 k_75 n a1 a2 a3 a5 a7 a8 a10 M = some (x, N) → Ev Y (d + 4) m_X11_lasts 99 [some (vR 0 21 0), some (vI a1), some (vI a2), some (vL a3), none, some (vL a5), none, some (vI a7), some (vL a8), none, some (vI a10)] [] M (some (vI x)) N := by
  intro n
  induction n with
  | zero => intro a1 a2 a3 a5 a7 a8 a10 M x N h; cases h
  | succ n ih =>
    intro a1 a2 a3 a5 a7 a8 a10 M x N h
    simp only [f_X11_lasts_99] at h
    refine Z_blk k_X11_lasts 4 (pc' := 106) (lo' := [some (vR 0 21 0), some (vI a1), some (vI a2), some (vL a3), none, some (vL a5), none, some (vI a7), some (vL a8), none, some (vI a10)]) (st' := [vI 1, vR 5 0 1775, vI a10]) (M1 := M) rfl ?_
    refine Z_one k_X11_lasts rfl (pc' := 107) (lo' := [some (vR 0 21 0), some (vI a1), some (vI a2), some (vL a3), none, some (vL a5), none, some (vI a7), some (vL a8), none, some (vI a10)]) (st' := [vI (M 5 (Int.toNat 1)), vI a10]) (M1 := M) (rfl) ?_
    refine Z_icmp k_X11_lasts rfl 188 rfl (fun hc => ?_) (fun hc => ?_)
    · replace h := of_pos hc h
      refine Z_blk k_X11_lasts 2 (pc' := 190) (lo' := [some (vR 0 21 0), some (vI a1), some (vI a2), some (vL a3), none, some (vL a5), none, some (vI a7), some (vL a8), none, some (vI a10)]) (st' := [vR 0 21 0, vL a3]) (M1 := M) rfl ?_
      obtain ⟨x1, hx1, h⟩ := Option.bind_eq_some_iff.mp h
      refine Z_callV8 k_X11_lasts k_X11_rung rfl rfl (l_11_332) (ci := 11) rfl [] [vL a3] rfl rfl (Nat.le_of_ble_eq_true rfl) (Nat.le_of_ble_eq_true rfl) (e_X11_rung (d + 0) M _ _ hx1) ?_
      refine Z_blk k_X11_lasts 1 (pc' := 194) (lo' := [some (vR 0 21 0), some (vI a1), some (vI a2), some (vL a3), none, some (vL a5), none, some (vI a7), some (vL a8), none, some (vI a10)]) (st' := [vI a1, vI x1.1, vL a3]) (M1 := x1.2) rfl ?_
      obtain ⟨x2, hx2, h⟩ := Option.bind_eq_some_iff.mp h
      refine Z_callS8 k_X11_lasts k_X11_has rfl rfl (l_11_108) [vI x1.1, vI a1] [vL a3] rfl rfl (Nat.le_of_ble_eq_true rfl) (Nat.le_of_ble_eq_true rfl) (e_X11_has (d + 3) x1.1 a1 x1.2 _ _ hx2) ?_
      refine Z_if k_X11_lasts rfl 205 rfl (fun hc => ?_) (fun hc => ?_)
      · replace h := of_pos hc h
        refine Z_blk k_X11_lasts 5 (pc' := 75) (lo' := [some (vR 0 21 0), some (vI a1), some (vI a2), some (vL (l_add a3 0)), none, some (vL a5), none, some (vI (o_add a7 1)), some (vL a8), none, some (vI a10)]) (st' := []) (M1 := x2.2) rfl ?_
        refine Z_mask [true, true, true, true, false, true, false, true, false, false, false] (lo0 := [some (vR 0 21 0), some (vI a1), some (vI a2), some (vL (l_add a3 0)), none, some (vL a5), none, some (vI (o_add a7 1)), none, none, none]) rfl ?_
        exact hk_75 a1 a2 (l_add a3 0) a5 (o_add a7 1) x2.2 _ _ h
      · replace h := of_neg hc h
        refine Z_blk k_X11_lasts 6 (pc' := 75) (lo' := [some (vR 0 21 0), some (vI a1), some (vI a2), some (vL (l_add a3 a8)), none, some (vL a5), none, some (vI (o_add a7 1)), some (vL a8), none, some (vI a10)]) (st' := []) (M1 := x2.2) rfl ?_
        refine Z_mask [true, true, true, true, false, true, false, true, false, false, false] (lo0 := [some (vR 0 21 0), some (vI a1), some (vI a2), some (vL (l_add a3 a8)), none, some (vL a5), none, some (vI (o_add a7 1)), none, none, none]) rfl ?_
        exact hk_75 a1 a2 (l_add a3 a8) a5 (o_add a7 1) x2.2 _ _ h
    · replace h := of_neg hc h
      refine Z_blk k_X11_lasts 2 (pc' := 113) (lo' := [some (vR 0 21 0), some (vI a1), some (vI a2), some (vL a3), none, some (vL a5), none, some (vI a7), some (vL a8), none, some (vI a10)]) (st' := [vI a10, vI a2]) (M1 := M) rfl ?_
      obtain ⟨x3, hx3, h⟩ := Option.bind_eq_some_iff.mp h
      refine Z_callS8 k_X11_lasts k_X11_has rfl rfl (l_11_108) [vI a2, vI a10] [] rfl rfl (Nat.le_of_ble_eq_true rfl) (Nat.le_of_ble_eq_true rfl) (e_X11_has (d + 3) a2 a10 M _ _ hx3) ?_
      refine Z_if k_X11_lasts rfl 122 rfl (fun hc => ?_) (fun hc => ?_)
      · replace h := of_pos hc h
        refine Z_blk k_X11_lasts 7 (pc' := 135) (lo' := [some (vR 0 21 0), some (vI a1), some (vI a2), some (vL a3), none, some (vL a5), none, some (vI a7), some (vL a8), none, some (vI a10)]) (st' := [vI a10, vI a7, vI (o_add 37 a10), vR 5 0 1775]) (M1 := x3.2) rfl ?_
        obtain ⟨x4, hx4, h⟩ := Option.bind_eq_some_iff.mp h
        refine Z_callS8 k_X11_lasts k_X11_has rfl rfl (l_11_108) [vI a7, vI a10] [vI (o_add 37 a10), vR 5 0 1775] rfl rfl (Nat.le_of_ble_eq_true rfl) (Nat.le_of_ble_eq_true rfl) (e_X11_has (d + 3) a7 a10 x3.2 _ _ hx4) ?_
        refine Z_if k_X11_lasts rfl 145 rfl (fun hc => ?_) (fun hc => ?_)
        · replace h := of_pos hc h
          refine Z_blk k_X11_lasts 1 (pc' := 146) (lo' := [some (vR 0 21 0), some (vI a1), some (vI a2), some (vL a3), none, some (vL a5), none, some (vI a7), some (vL a8), none, some (vI a10)]) (st' := [vI 1, vI (o_add 37 a10), vR 5 0 1775]) (M1 := x4.2) rfl ?_
          refine Z_mask [true, true, true, true, false, true, false, true, true, false, true] (lo0 := [some (vR 0 21 0), some (vI a1), some (vI a2), some (vL a3), none, some (vL a5), none, some (vI a7), some (vL a8), none, some (vI a10)]) rfl ?_
          exact e_X11_lasts_146 d k_75 (f_X11_lasts_99 k_75 n) hk_75 ih a1 a2 a3 a5 a7 a8 a10 5 (o_add 37 a10) 1 x4.2 _ _ h
        · replace h := of_neg hc h
          refine Z_blk k_X11_lasts 2 (pc' := 146) (lo' := [some (vR 0 21 0), some (vI a1), some (vI a2), some (vL a3), none, some (vL a5), none, some (vI a7), some (vL a8), none, some (vI a10)]) (st' := [vI 0, vI (o_add 37 a10), vR 5 0 1775]) (M1 := x4.2) rfl ?_
          refine Z_mask [true, true, true, true, false, true, false, true, true, false, true] (lo0 := [some (vR 0 21 0), some (vI a1), some (vI a2), some (vL a3), none, some (vL a5), none, some (vI a7), some (vL a8), none, some (vI a10)]) rfl ?_
          exact e_X11_lasts_146 d k_75 (f_X11_lasts_99 k_75 n) hk_75 ih a1 a2 a3 a5 a7 a8 a10 5 (o_add 37 a10) 0 x4.2 _ _ h
      · replace h := of_neg hc h
        refine Z_blk k_X11_lasts 3 (pc' := 99) (lo' := [some (vR 0 21 0), some (vI a1), some (vI a2), some (vL a3), none, some (vL a5), none, some (vI a7), some (vL a8), none, some (vI (o_add a10 1))]) (st' := []) (M1 := x3.2) rfl ?_
        refine Z_mask [true, true, true, true, false, true, false, true, true, false, true] (lo0 := [some (vR 0 21 0), some (vI a1), some (vI a2), some (vL a3), none, some (vL a5), none, some (vI a7), some (vL a8), none, some (vI (o_add a10 1))]) rfl ?_
        exact ih a1 a2 a3 a5 a7 a8 (o_add a10 1) x3.2 _ _ h
def f_X11_lasts_75 : Nat → Int → Int → Int → Int → Int → AM → Option (Int × AM)
  | 0, _, _, _, _, _, _ => none
  | n + 1, a1, a2, a3, a5, a7, M => if a2 < a7 then ((f_X11_gives M).bind fun x1 => (f_X11_fraction a3 a5 x1).bind fun x2 => if x2.1 = 0 ∨ x2.1 = 1 then some (x2.1, x2.2) else none) else (if o_and a7 (o_xor a2 (-1)) = 0 then f_X11_lasts_99 (f_X11_lasts_75 n) zB a1 a2 a3 a5 a7 1 0 M else f_X11_lasts_75 n a1 a2 a3 a5 (o_add a7 1) M)
theorem e_X11_lasts_75 {Y : List (Nat × Nat)} (d : Nat) : ∀ (n : Nat) (a1 : Int) (a2 : Int) (a3 : Int) (a5 : Int) (a7 : Int) (M : AM) (x : Int) (N : AM), f_X11_lasts_75 n a1 a2 a3 a5 a7 M = some (x, N) → Ev Y (d + 4) m_X11_lasts 75 [some (vR 0 21 0), some (vI a1), some (vI a2), some (vL a3), none, some (vL a5), none, some (vI a7), none, none, none] [] M (some (vI x)) N := by
  intro n
  induction n with
  | zero => intro a1 a2 a3 a5 a7 M x N h; cases h
  | succ n ih =>
    intro a1 a2 a3 a5 a7 M x N h
    simp only [f_X11_lasts_75] at h
    refine Z_blk k_X11_lasts 2 (pc' := 78) (lo' := [some (vR 0 21 0), some (vI a1), some (vI a2), some (vL a3), none, some (vL a5), none, some (vI a7), none, none, none]) (st' := [vI a2, vI a7]) (M1 := M) rfl ?_
    refine Z_icmp k_X11_lasts rfl 214 rfl (fun hc => ?_) (fun hc => ?_)
    · replace h := of_pos hc h
      refine Z_blk k_X11_lasts 1 (pc' := 215) (lo' := [some (vR 0 21 0), some (vI a1), some (vI a2), some (vL a3), none, some (vL a5), none, some (vI a7), none, none, none]) (st' := [vR 0 21 0]) (M1 := M) rfl ?_
      obtain ⟨x1, hx1, h⟩ := Option.bind_eq_some_iff.mp h
      refine Z_callV8 k_X11_lasts k_X11_gives rfl rfl (l_11_400) (ci := 11) rfl [] [] rfl rfl (Nat.le_of_ble_eq_true rfl) (Nat.le_of_ble_eq_true rfl) (e_X11_gives (d + 3) M _ hx1) ?_
      refine Z_blk k_X11_lasts 3 (pc' := 222) (lo' := [some (vR 0 21 0), some (vI a1), some (vI a2), some (vL a3), none, some (vL a5), none, some (vI a7), none, none, none]) (st' := [vL a5, vL a3, vR 0 21 0]) (M1 := x1) rfl ?_
      obtain ⟨x2, hx2, h⟩ := Option.bind_eq_some_iff.mp h
      refine Z_callV8 k_X11_lasts k_X11_fraction rfl rfl (l_11_436) (ci := 11) rfl [vL a3, vL a5] [] rfl rfl (Nat.le_of_ble_eq_true rfl) (Nat.le_of_ble_eq_true rfl) (e_X11_fraction (d + 3) a3 a5 x1 _ _ hx2) ?_
      obtain ⟨hc3, h⟩ := of_grd h
      cases h
      exact Z_ret ⟨Or.inr ⟨rfl, hc3⟩, _, rfl⟩ rfl
    · replace h := of_neg hc h
      refine Z_blk k_X11_lasts 5 (pc' := 87) (lo' := [some (vR 0 21 0), some (vI a1), some (vI a2), some (vL a3), none, some (vL a5), none, some (vI a7), none, none, none]) (st' := [vI (o_and a7 (o_xor a2 (-1)))]) (M1 := M) rfl ?_
      refine Z_if k_X11_lasts rfl 93 rfl (fun hc => ?_) (fun hc => ?_)
      · replace h := of_pos hc h
        refine Z_blk k_X11_lasts 4 (pc' := 99) (lo' := [some (vR 0 21 0), some (vI a1), some (vI a2), some (vL a3), none, some (vL a5), none, some (vI a7), some (vL 1), none, some (vI 0)]) (st' := []) (M1 := M) rfl ?_
        refine Z_mask [true, true, true, true, false, true, false, true, true, false, true] (lo0 := [some (vR 0 21 0), some (vI a1), some (vI a2), some (vL a3), none, some (vL a5), none, some (vI a7), some (vL 1), none, some (vI 0)]) rfl ?_
        exact e_X11_lasts_99 d (f_X11_lasts_75 n) ih zB a1 a2 a3 a5 a7 1 0 M _ _ h
      · replace h := of_neg hc h
        refine Z_blk k_X11_lasts 3 (pc' := 75) (lo' := [some (vR 0 21 0), some (vI a1), some (vI a2), some (vL a3), none, some (vL a5), none, some (vI (o_add a7 1)), none, none, none]) (st' := []) (M1 := M) rfl ?_
        refine Z_mask [true, true, true, true, false, true, false, true, false, false, false] (lo0 := [some (vR 0 21 0), some (vI a1), some (vI a2), some (vL a3), none, some (vL a5), none, some (vI (o_add a7 1)), none, none, none]) rfl ?_
        exact ih a1 a2 a3 a5 (o_add a7 1) M _ _ h
def f_X11_lasts_45 : Nat → Int → Int → Int → Int → Int → AM → Option (Int × AM)
  | 0, _, _, _, _, _, _ => none
  | n + 1, a1, a2, a3, a5, a7, M => (f_X11_sizeOf a2 M).bind fun x1 => if x1.1 ≤ a7 then ((f_X11_puts x1.2).bind fun x2 => f_X11_lasts_75 zB a1 a2 a3 a5 0 x2) else f_X11_lasts_45 n a1 a2 a3 (l_mul a5 16) (o_add a7 1) x1.2
theorem e_X11_lasts_45 {Y : List (Nat × Nat)} (d : Nat) : ∀ (n : Nat) (a1 : Int) (a2 : Int) (a3 : Int) (a5 : Int) (a7 : Int) (M : AM) (x : Int) (N : AM), f_X11_lasts_45 n a1 a2 a3 a5 a7 M = some (x, N) → Ev Y (d + 4) m_X11_lasts 45 [some (vR 0 21 0), some (vI a1), some (vI a2), some (vL a3), none, some (vL a5), none, some (vI a7), none, none, none] [] M (some (vI x)) N := by
  intro n
  induction n with
  | zero => intro a1 a2 a3 a5 a7 M x N h; cases h
  | succ n ih =>
    intro a1 a2 a3 a5 a7 M x N h
    simp only [f_X11_lasts_45] at h
    refine Z_blk k_X11_lasts 2 (pc' := 48) (lo' := [some (vR 0 21 0), some (vI a1), some (vI a2), some (vL a3), none, some (vL a5), none, some (vI a7), none, none, none]) (st' := [vI a2, vI a7]) (M1 := M) rfl ?_
    obtain ⟨x1, hx1, h⟩ := Option.bind_eq_some_iff.mp h
    refine Z_callS8 k_X11_lasts k_X11_sizeOf rfl rfl (l_11_403) [vI a2] [vI a7] rfl rfl (Nat.le_of_ble_eq_true rfl) (Nat.le_of_ble_eq_true rfl) (e_X11_sizeOf (d + 2) a2 M _ _ hx1) ?_
    refine Z_icmp k_X11_lasts rfl 68 rfl (fun hc => ?_) (fun hc => ?_)
    · replace h := of_pos hc h
      refine Z_blk k_X11_lasts 1 (pc' := 69) (lo' := [some (vR 0 21 0), some (vI a1), some (vI a2), some (vL a3), none, some (vL a5), none, some (vI a7), none, none, none]) (st' := [vR 0 21 0]) (M1 := x1.2) rfl ?_
      obtain ⟨x2, hx2, h⟩ := Option.bind_eq_some_iff.mp h
      refine Z_callV8 k_X11_lasts k_X11_puts rfl rfl (l_11_397) (ci := 11) rfl [] [] rfl rfl (Nat.le_of_ble_eq_true rfl) (Nat.le_of_ble_eq_true rfl) (e_X11_puts (d + 3) x1.2 _ hx2) ?_
      refine Z_blk k_X11_lasts 2 (pc' := 75) (lo' := [some (vR 0 21 0), some (vI a1), some (vI a2), some (vL a3), none, some (vL a5), none, some (vI 0), none, none, none]) (st' := []) (M1 := x2) rfl ?_
      refine Z_mask [true, true, true, true, false, true, false, true, false, false, false] (lo0 := [some (vR 0 21 0), some (vI a1), some (vI a2), some (vL a3), none, some (vL a5), none, some (vI 0), none, none, none]) rfl ?_
      exact e_X11_lasts_75 d zB a1 a2 a3 a5 0 x2 _ _ h
    · replace h := of_neg hc h
      refine Z_blk k_X11_lasts 6 (pc' := 45) (lo' := [some (vR 0 21 0), some (vI a1), some (vI a2), some (vL a3), none, some (vL (l_mul a5 16)), none, some (vI (o_add a7 1)), none, none, none]) (st' := []) (M1 := x1.2) rfl ?_
      refine Z_mask [true, true, true, true, false, true, false, true, false, false, false] (lo0 := [some (vR 0 21 0), some (vI a1), some (vI a2), some (vL a3), none, some (vL (l_mul a5 16)), none, some (vI (o_add a7 1)), none, none, none]) rfl ?_
      exact ih a1 a2 a3 (l_mul a5 16) (o_add a7 1) x1.2 _ _ h
def f_X11_lasts (a1 : Int) (M : AM) : Option (Int × AM) := zlet (am_upd M 0 1 0) fun M1 => zlet (am_upd M1 0 0 0) fun M2 => (f_X11_isCoupleAt a1 M2).bind fun x3 => if ¬ x3.1 = 0 then ((f_X11_setOf 37 (x3.2 5 (Int.toNat 1)) x3.2).bind fun x4 => f_X11_lasts_45 zB a1 x4.1 0 1 0 x4.2) else ((f_X11_no 2 x3.2).bind fun x5 => if x5.1 = 0 ∨ x5.1 = 1 then some (x5.1, x5.2) else none)
theorem e_X11_lasts {Y : List (Nat × Nat)} (d : Nat) (a1 : Int) (M : AM) (x : Int) (N : AM) (h : f_X11_lasts a1 M = some (x, N)) : Ev Y (d + 4) m_X11_lasts 0 [some (vR 0 21 0), some (vI a1), none, none, none, none, none, none, none, none, none] [] M (some (vI x)) N := by
  unfold f_X11_lasts at h
  obtain ⟨M1, eM1, h⟩ := of_zlet h
  refine Z_blk k_X11_lasts 3 (pc' := 5) (lo' := [some (vR 0 21 0), some (vI a1), none, none, none, none, none, none, none, none, none]) (st' := []) (M1 := M1) (by rw [eM1]; rfl) ?_
  obtain ⟨M2, eM2, h⟩ := of_zlet h
  refine Z_blk k_X11_lasts 3 (pc' := 10) (lo' := [some (vR 0 21 0), some (vI a1), none, none, none, none, none, none, none, none, none]) (st' := []) (M1 := M2) (by rw [eM2]; rfl) ?_
  refine Z_blk k_X11_lasts 2 (pc' := 12) (lo' := [some (vR 0 21 0), some (vI a1), none, none, none, none, none, none, none, none, none]) (st' := [vI a1, vR 0 21 0]) (M1 := M2) rfl ?_
  obtain ⟨x3, hx3, h⟩ := Option.bind_eq_some_iff.mp h
  refine Z_callV8 k_X11_lasts k_X11_isCoupleAt rfl rfl (l_11_341) (ci := 11) rfl [vI a1] [] rfl rfl (Nat.le_of_ble_eq_true rfl) (Nat.le_of_ble_eq_true rfl) (e_X11_isCoupleAt (d + 2) a1 M2 _ _ hx3) ?_
  refine Z_if k_X11_lasts rfl 24 rfl (fun hc => ?_) (fun hc => ?_)
  · replace h := of_pos hc h
    refine Z_blk k_X11_lasts 5 (pc' := 32) (lo' := [some (vR 0 21 0), some (vI a1), none, none, none, none, none, none, none, none, none]) (st' := [vI 1, vR 5 0 1775, vI 37, vR 0 21 0]) (M1 := x3.2) rfl ?_
    refine Z_one k_X11_lasts rfl (pc' := 33) (lo' := [some (vR 0 21 0), some (vI a1), none, none, none, none, none, none, none, none, none]) (st' := [vI (x3.2 5 (Int.toNat 1)), vI 37, vR 0 21 0]) (M1 := x3.2) (rfl) ?_
    obtain ⟨x4, hx4, h⟩ := Option.bind_eq_some_iff.mp h
    refine Z_callV8 k_X11_lasts k_X11_setOf rfl rfl (l_11_329) (ci := 11) rfl [vI 37, vI (x3.2 5 (Int.toNat 1))] [] rfl rfl (Nat.le_of_ble_eq_true rfl) (Nat.le_of_ble_eq_true rfl) (e_X11_setOf (d + 3) 37 (x3.2 5 (Int.toNat 1)) x3.2 _ _ hx4) ?_
    refine Z_blk k_X11_lasts 7 (pc' := 45) (lo' := [some (vR 0 21 0), some (vI a1), some (vI x4.1), some (vL 0), none, some (vL 1), none, some (vI 0), none, none, none]) (st' := []) (M1 := x4.2) rfl ?_
    refine Z_mask [true, true, true, true, false, true, false, true, false, false, false] (lo0 := [some (vR 0 21 0), some (vI a1), some (vI x4.1), some (vL 0), none, some (vL 1), none, some (vI 0), none, none, none]) rfl ?_
    exact e_X11_lasts_45 d zB a1 x4.1 0 1 0 x4.2 _ _ h
  · replace h := of_neg hc h
    refine Z_blk k_X11_lasts 2 (pc' := 20) (lo' := [some (vR 0 21 0), some (vI a1), none, none, none, none, none, none, none, none, none]) (st' := [vI 2, vR 0 21 0]) (M1 := x3.2) rfl ?_
    obtain ⟨x5, hx5, h⟩ := Option.bind_eq_some_iff.mp h
    refine Z_callV8 k_X11_lasts k_X11_no rfl rfl (l_11_84) (ci := 11) rfl [vI 2] [] rfl rfl (Nat.le_of_ble_eq_true rfl) (Nat.le_of_ble_eq_true rfl) (e_X11_no (d + 3) 2 x3.2 _ _ hx5) ?_
    obtain ⟨hc6, h⟩ := of_grd h
    cases h
    exact Z_ret ⟨Or.inr ⟨rfl, hc6⟩, _, rfl⟩ rfl
def f_X11_faith (a1 : Int) (M : AM) : Option (Int × AM) := zlet (am_upd M 0 1 0) fun M1 => zlet (am_upd M1 0 0 0) fun M2 => (f_X11_isCoupleAt a1 M2).bind fun x3 => if ¬ x3.1 = 0 then (if ¬ x3.2 5 (Int.toNat 5) = 0 then (if 0 ≤ o_add 71 a1 ∧ o_add 71 a1 < 1775 then ((f_X11_fraction (x3.2 5 (Int.toNat (o_add 71 a1))) (x3.2 5 (Int.toNat 5)) x3.2).bind fun x5 => if x5.1 = 0 ∨ x5.1 = 1 then some (x5.1, x5.2) else none) else none) else ((f_X11_no 8 x3.2).bind fun x7 => if x7.1 = 0 ∨ x7.1 = 1 then some (x7.1, x7.2) else none)) else ((f_X11_no 2 x3.2).bind fun x9 => if x9.1 = 0 ∨ x9.1 = 1 then some (x9.1, x9.2) else none)
theorem e_X11_faith {Y : List (Nat × Nat)} (d : Nat) (a1 : Int) (M : AM) (x : Int) (N : AM) (h : f_X11_faith a1 M = some (x, N)) : Ev Y (d + 2) m_X11_faith 0 [some (vR 0 21 0), some (vI a1)] [] M (some (vI x)) N := by
  unfold f_X11_faith at h
  obtain ⟨M1, eM1, h⟩ := of_zlet h
  refine Z_blk k_X11_faith 3 (pc' := 5) (lo' := [some (vR 0 21 0), some (vI a1)]) (st' := []) (M1 := M1) (by rw [eM1]; rfl) ?_
  obtain ⟨M2, eM2, h⟩ := of_zlet h
  refine Z_blk k_X11_faith 3 (pc' := 10) (lo' := [some (vR 0 21 0), some (vI a1)]) (st' := []) (M1 := M2) (by rw [eM2]; rfl) ?_
  refine Z_blk k_X11_faith 2 (pc' := 12) (lo' := [some (vR 0 21 0), some (vI a1)]) (st' := [vI a1, vR 0 21 0]) (M1 := M2) rfl ?_
  obtain ⟨x3, hx3, h⟩ := Option.bind_eq_some_iff.mp h
  refine Z_callV8 k_X11_faith k_X11_isCoupleAt rfl rfl (l_11_341) (ci := 11) rfl [vI a1] [] rfl rfl (Nat.le_of_ble_eq_true rfl) (Nat.le_of_ble_eq_true rfl) (e_X11_isCoupleAt (d + 0) a1 M2 _ _ hx3) ?_
  refine Z_if k_X11_faith rfl 24 rfl (fun hc => ?_) (fun hc => ?_)
  · replace h := of_pos hc h
    refine Z_blk k_X11_faith 3 (pc' := 29) (lo' := [some (vR 0 21 0), some (vI a1)]) (st' := [vI 5, vR 5 0 1775]) (M1 := x3.2) rfl ?_
    refine Z_one k_X11_faith rfl (pc' := 30) (lo' := [some (vR 0 21 0), some (vI a1)]) (st' := [vI (x3.2 5 (Int.toNat 5))]) (M1 := x3.2) (rfl) ?_
    refine Z_if k_X11_faith rfl 42 rfl (fun hc => ?_) (fun hc => ?_)
    · replace h := of_pos hc h
      refine Z_blk k_X11_faith 6 (pc' := 51) (lo' := [some (vR 0 21 0), some (vI a1)]) (st' := [vI (o_add 71 a1), vR 5 0 1775, vR 0 21 0]) (M1 := x3.2) rfl ?_
      obtain ⟨hc4, h⟩ := of_grd h
      refine Z_one k_X11_faith rfl (pc' := 52) (lo' := [some (vR 0 21 0), some (vI a1)]) (st' := [vI (x3.2 5 (Int.toNat (o_add 71 a1))), vR 0 21 0]) (M1 := x3.2) (if_pos hc4) ?_
      refine Z_blk k_X11_faith 4 (pc' := 58) (lo' := [some (vR 0 21 0), some (vI a1)]) (st' := [vI 5, vR 5 0 1775, vL (x3.2 5 (Int.toNat (o_add 71 a1))), vR 0 21 0]) (M1 := x3.2) rfl ?_
      refine Z_one k_X11_faith rfl (pc' := 59) (lo' := [some (vR 0 21 0), some (vI a1)]) (st' := [vI (x3.2 5 (Int.toNat 5)), vL (x3.2 5 (Int.toNat (o_add 71 a1))), vR 0 21 0]) (M1 := x3.2) (rfl) ?_
      refine Z_blk k_X11_faith 1 (pc' := 60) (lo' := [some (vR 0 21 0), some (vI a1)]) (st' := [vL (x3.2 5 (Int.toNat 5)), vL (x3.2 5 (Int.toNat (o_add 71 a1))), vR 0 21 0]) (M1 := x3.2) rfl ?_
      obtain ⟨x5, hx5, h⟩ := Option.bind_eq_some_iff.mp h
      refine Z_callV8 k_X11_faith k_X11_fraction rfl rfl (l_11_436) (ci := 11) rfl [vL (x3.2 5 (Int.toNat (o_add 71 a1))), vL (x3.2 5 (Int.toNat 5))] [] rfl rfl (Nat.le_of_ble_eq_true rfl) (Nat.le_of_ble_eq_true rfl) (e_X11_fraction (d + 1) (x3.2 5 (Int.toNat (o_add 71 a1))) (x3.2 5 (Int.toNat 5)) x3.2 _ _ hx5) ?_
      obtain ⟨hc6, h⟩ := of_grd h
      cases h
      exact Z_ret ⟨Or.inr ⟨rfl, hc6⟩, _, rfl⟩ rfl
    · replace h := of_neg hc h
      refine Z_blk k_X11_faith 2 (pc' := 36) (lo' := [some (vR 0 21 0), some (vI a1)]) (st' := [vI 8, vR 0 21 0]) (M1 := x3.2) rfl ?_
      obtain ⟨x7, hx7, h⟩ := Option.bind_eq_some_iff.mp h
      refine Z_callV8 k_X11_faith k_X11_no rfl rfl (l_11_84) (ci := 11) rfl [vI 8] [] rfl rfl (Nat.le_of_ble_eq_true rfl) (Nat.le_of_ble_eq_true rfl) (e_X11_no (d + 1) 8 x3.2 _ _ hx7) ?_
      refine Z_blk k_X11_faith 1 (pc' := 63) (lo' := [some (vR 0 21 0), some (vI a1)]) (st' := [vI x7.1]) (M1 := x7.2) rfl ?_
      obtain ⟨hc8, h⟩ := of_grd h
      cases h
      exact Z_ret ⟨Or.inr ⟨rfl, hc8⟩, _, rfl⟩ rfl
  · replace h := of_neg hc h
    refine Z_blk k_X11_faith 2 (pc' := 20) (lo' := [some (vR 0 21 0), some (vI a1)]) (st' := [vI 2, vR 0 21 0]) (M1 := x3.2) rfl ?_
    obtain ⟨x9, hx9, h⟩ := Option.bind_eq_some_iff.mp h
    refine Z_callV8 k_X11_faith k_X11_no rfl rfl (l_11_84) (ci := 11) rfl [vI 2] [] rfl rfl (Nat.le_of_ble_eq_true rfl) (Nat.le_of_ble_eq_true rfl) (e_X11_no (d + 1) 2 x3.2 _ _ hx9) ?_
    obtain ⟨hc10, h⟩ := of_grd h
    cases h
    exact Z_ret ⟨Or.inr ⟨rfl, hc10⟩, _, rfl⟩ rfl
def f_X11_draw (a1 : Int) (M : AM) : Option (Int × AM) := zlet (am_upd M 0 36 (o_rem (o_add (o_mul (M 0 36) 2971) 10859) 65536)) fun M1 => if a1 ≠ 0 then some (o_rem (o_div (M1 0 36) 8) a1, M1) else none
theorem e_X11_draw {Y : List (Nat × Nat)} (d : Nat) (a1 : Int) (M : AM) (x : Int) (N : AM) (h : f_X11_draw a1 M = some (x, N)) : Ev Y (d + 0) m_X11_draw 0 [some (vR 0 21 0), some (vI a1)] [] M (some (vI x)) N := by
  unfold f_X11_draw at h
  refine Z_blk k_X11_draw 8 (pc' := 16) (lo' := [some (vR 0 21 0), some (vI a1)]) (st' := [vI 65536, vI (o_add (o_mul (M 0 36) 2971) 10859), vR 0 21 0]) (M1 := M) rfl ?_
  refine Z_one k_X11_draw rfl (pc' := 17) (lo' := [some (vR 0 21 0), some (vI a1)]) (st' := [vI (o_rem (o_add (o_mul (M 0 36) 2971) 10859) 65536), vR 0 21 0]) (M1 := M) (rfl) ?_
  obtain ⟨M1, eM1, h⟩ := of_zlet h
  refine Z_blk k_X11_draw 1 (pc' := 20) (lo' := [some (vR 0 21 0), some (vI a1)]) (st' := []) (M1 := M1) (by rw [eM1]; rfl) ?_
  refine Z_blk k_X11_draw 3 (pc' := 26) (lo' := [some (vR 0 21 0), some (vI a1)]) (st' := [vI 8, vI (M1 0 36)]) (M1 := M1) rfl ?_
  refine Z_one k_X11_draw rfl (pc' := 27) (lo' := [some (vR 0 21 0), some (vI a1)]) (st' := [vI (o_div (M1 0 36) 8)]) (M1 := M1) (rfl) ?_
  refine Z_blk k_X11_draw 1 (pc' := 28) (lo' := [some (vR 0 21 0), some (vI a1)]) (st' := [vI a1, vI (o_div (M1 0 36) 8)]) (M1 := M1) rfl ?_
  obtain ⟨hc2, h⟩ := of_grd h
  refine Z_one k_X11_draw rfl (pc' := 29) (lo' := [some (vR 0 21 0), some (vI a1)]) (st' := [vI (o_rem (o_div (M1 0 36) 8) a1)]) (M1 := M1) (if_pos hc2) ?_
  cases h
  exact Z_ret ⟨Or.inl rfl, _, rfl⟩ rfl
def f_X11_anyDays_18 : Nat → Int → Int → AM → Option (Int × AM)
  | 0, _, _, _ => none
  | n + 1, a1, a2, M => if a1 ≤ a2 then (zlet (am_upd M 0 39 (o_add (M 0 39) a1)) fun M1 => some (1, M1)) else ((f_X11_goesDay M).bind fun x2 => (f_X11_sizeOf x2.1 x2.2).bind fun x3 => zlet (am_upd x3.2 0 40 (o_add (M 0 40) x3.1)) fun M4 => f_X11_anyDays_18 n a1 (o_add a2 1) M4)
theorem e_X11_anyDays_18 {Y : List (Nat × Nat)} (d : Nat) : ∀ (n : Nat) (a1 : Int) (a2 : Int) (M : AM) (x : Int) (N : AM), f_X11_anyDays_18 n a1 a2 M = some (x, N) → Ev Y (d + 4) m_X11_anyDays 18 [some (vR 0 21 0), some (vI a1), some (vI a2)] [] M (some (vI x)) N := by
  intro n
  induction n with
  | zero => intro a1 a2 M x N h; cases h
  | succ n ih =>
    intro a1 a2 M x N h
    simp only [f_X11_anyDays_18] at h
    refine Z_blk k_X11_anyDays 2 (pc' := 20) (lo' := [some (vR 0 21 0), some (vI a1), some (vI a2)]) (st' := [vI a1, vI a2]) (M1 := M) rfl ?_
    refine Z_icmp k_X11_anyDays rfl 45 rfl (fun hc => ?_) (fun hc => ?_)
    · replace h := of_pos hc h
      obtain ⟨M1, eM1, h⟩ := of_zlet h
      refine Z_blk k_X11_anyDays 6 (pc' := 55) (lo' := [some (vR 0 21 0), some (vI a1), some (vI a2)]) (st' := []) (M1 := M1) (by rw [eM1]; rfl) ?_
      refine Z_blk k_X11_anyDays 1 (pc' := 56) (lo' := [some (vR 0 21 0), some (vI a1), some (vI a2)]) (st' := [vI 1]) (M1 := M1) rfl ?_
      cases h
      exact Z_ret ⟨Or.inr ⟨rfl, Or.inr rfl⟩, _, rfl⟩ rfl
    · replace h := of_neg hc h
      refine Z_blk k_X11_anyDays 4 (pc' := 29) (lo' := [some (vR 0 21 0), some (vI a1), some (vI a2)]) (st' := [vR 0 21 0, vI (M 0 40), vR 0 21 0]) (M1 := M) rfl ?_
      obtain ⟨x2, hx2, h⟩ := Option.bind_eq_some_iff.mp h
      refine Z_callV8 k_X11_anyDays k_X11_goesDay rfl rfl (l_11_361) (ci := 11) rfl [] [vI (M 0 40), vR 0 21 0] rfl rfl (Nat.le_of_ble_eq_true rfl) (Nat.le_of_ble_eq_true rfl) (e_X11_goesDay (d + 0) M _ _ hx2) ?_
      obtain ⟨x3, hx3, h⟩ := Option.bind_eq_some_iff.mp h
      refine Z_callS8 k_X11_anyDays k_X11_sizeOf rfl rfl (l_11_403) [vI x2.1] [vI (M 0 40), vR 0 21 0] rfl rfl (Nat.le_of_ble_eq_true rfl) (Nat.le_of_ble_eq_true rfl) (e_X11_sizeOf (d + 2) x2.1 x2.2 _ _ hx3) ?_
      obtain ⟨M4, eM4, h⟩ := of_zlet h
      refine Z_blk k_X11_anyDays 2 (pc' := 39) (lo' := [some (vR 0 21 0), some (vI a1), some (vI a2)]) (st' := []) (M1 := M4) (by rw [eM4]; rfl) ?_
      refine Z_blk k_X11_anyDays 2 (pc' := 18) (lo' := [some (vR 0 21 0), some (vI a1), some (vI (o_add a2 1))]) (st' := []) (M1 := M4) rfl ?_
      refine Z_mask [true, true, true] (lo0 := [some (vR 0 21 0), some (vI a1), some (vI (o_add a2 1))]) rfl ?_
      exact ih a1 (o_add a2 1) M4 _ _ h
def f_X11_anyDays (a1 : Int) (M : AM) : Option (Int × AM) := if o_add (M 5 (Int.toNat 5)) a1 ≤ 9999 then f_X11_anyDays_18 zB a1 0 M else some (0, M)
theorem e_X11_anyDays {Y : List (Nat × Nat)} (d : Nat) (a1 : Int) (M : AM) (x : Int) (N : AM) (h : f_X11_anyDays a1 M = some (x, N)) : Ev Y (d + 4) m_X11_anyDays 0 [some (vR 0 21 0), some (vI a1), none] [] M (some (vI x)) N := by
  unfold f_X11_anyDays at h
  refine Z_blk k_X11_anyDays 3 (pc' := 5) (lo' := [some (vR 0 21 0), some (vI a1), none]) (st' := [vI 5, vR 5 0 1775]) (M1 := M) rfl ?_
  refine Z_one k_X11_anyDays rfl (pc' := 6) (lo' := [some (vR 0 21 0), some (vI a1), none]) (st' := [vI (M 5 (Int.toNat 5))]) (M1 := M) (rfl) ?_
  refine Z_blk k_X11_anyDays 3 (pc' := 11) (lo' := [some (vR 0 21 0), some (vI a1), none]) (st' := [vI 9999, vI (o_add (M 5 (Int.toNat 5)) a1)]) (M1 := M) rfl ?_
  refine Z_icmp k_X11_anyDays rfl 16 rfl (fun hc => ?_) (fun hc => ?_)
  · replace h := of_pos hc h
    refine Z_blk k_X11_anyDays 2 (pc' := 18) (lo' := [some (vR 0 21 0), some (vI a1), some (vI 0)]) (st' := []) (M1 := M) rfl ?_
    refine Z_mask [true, true, true] (lo0 := [some (vR 0 21 0), some (vI a1), some (vI 0)]) rfl ?_
    exact e_X11_anyDays_18 d zB a1 0 M _ _ h
  · replace h := of_neg hc h
    refine Z_blk k_X11_anyDays 1 (pc' := 15) (lo' := [some (vR 0 21 0), some (vI a1), none]) (st' := [vI 0]) (M1 := M) rfl ?_
    cases h
    exact Z_ret ⟨Or.inr ⟨rfl, Or.inl rfl⟩, _, rfl⟩ rfl
def f_X11_isCut (a1 : Int) (M : AM) : Option (Int × AM) := (f_X11_becomes (o_add 37 a1) 0 M).bind fun x1 => if ¬ x1.1 = 0 then (zlet (am_upd x1.2 0 41 (o_add (x1.2 0 41) 1)) fun M2 => some (1, M2)) else some (0, x1.2)
theorem e_X11_isCut {Y : List (Nat × Nat)} (d : Nat) (a1 : Int) (M : AM) (x : Int) (N : AM) (h : f_X11_isCut a1 M = some (x, N)) : Ev Y (d + 1) m_X11_isCut 0 [some (vR 0 21 0), some (vI a1)] [] M (some (vI x)) N := by
  unfold f_X11_isCut at h
  refine Z_blk k_X11_isCut 5 (pc' := 6) (lo' := [some (vR 0 21 0), some (vI a1)]) (st' := [vI 0, vI (o_add 37 a1), vR 0 21 0]) (M1 := M) rfl ?_
  obtain ⟨x1, hx1, h⟩ := Option.bind_eq_some_iff.mp h
  refine Z_callV8 k_X11_isCut k_X11_becomes rfl rfl (l_11_364) (ci := 11) rfl [vI (o_add 37 a1), vI 0] [] rfl rfl (Nat.le_of_ble_eq_true rfl) (Nat.le_of_ble_eq_true rfl) (e_X11_becomes (d + 0) (o_add 37 a1) 0 M _ _ hx1) ?_
  refine Z_if k_X11_isCut rfl 14 rfl (fun hc => ?_) (fun hc => ?_)
  · replace h := of_pos hc h
    obtain ⟨M2, eM2, h⟩ := of_zlet h
    refine Z_blk k_X11_isCut 6 (pc' := 24) (lo' := [some (vR 0 21 0), some (vI a1)]) (st' := []) (M1 := M2) (by rw [eM2]; rfl) ?_
    refine Z_blk k_X11_isCut 1 (pc' := 25) (lo' := [some (vR 0 21 0), some (vI a1)]) (st' := [vI 1]) (M1 := M2) rfl ?_
    cases h
    exact Z_ret ⟨Or.inr ⟨rfl, Or.inr rfl⟩, _, rfl⟩ rfl
  · replace h := of_neg hc h
    refine Z_blk k_X11_isCut 1 (pc' := 13) (lo' := [some (vR 0 21 0), some (vI a1)]) (st' := [vI 0]) (M1 := x1.2) rfl ?_
    cases h
    exact Z_ret ⟨Or.inr ⟨rfl, Or.inl rfl⟩, _, rfl⟩ rfl
theorem l_11_453 : zhas 9018 (Jvm.Cond.methodLink "BellPullHouseModel" 453 yX11_draw) = true := by decide +kernel
theorem l_11_456 : zhas 9010 (Jvm.Cond.methodLink "BellPullHouseModel" 456 yX11_isCut) = true := by decide +kernel
def f_X11_isAny_42 (a1 : Int) (s0 : Int) (M : AM) : Option (Int × AM) := if 0 ≤ o_add 37 a1 ∧ o_add 37 a1 < 1775 then (if ¬ M 5 (Int.toNat (o_add 37 a1)) = 0 then (if s0 = 0 then (if 0 ≤ o_add 27 a1 ∧ o_add 27 a1 < 1775 then (if ¬ M 5 (Int.toNat (o_add 27 a1)) = 9 then (zlet (am_upd M 5 (Int.toNat (o_add 27 a1)) (o_add (M 5 (Int.toNat (o_add 27 a1))) 1)) fun M3 => some (1, M3)) else some (0, M)) else none) else ((f_X11_isCut a1 M).bind fun x4 => if x4.1 = 0 ∨ x4.1 = 1 then some (x4.1, x4.2) else none)) else some (0, M)) else none
theorem e_X11_isAny_42 {Y : List (Nat × Nat)} (d : Nat) (a1 : Int) (s0 : Int) (M : AM) (x : Int) (N : AM) (h : f_X11_isAny_42 a1 s0 M = some (x, N)) : Ev Y (d + 2) m_X11_isAny 42 [some (vR 0 21 0), some (vI a1), none] [vI s0] M (some (vI x)) N := by
  unfold f_X11_isAny_42 at h
  refine Z_blk k_X11_isAny 6 (pc' := 51) (lo' := [some (vR 0 21 0), some (vI a1), some (vI s0)]) (st' := [vI (o_add 37 a1), vR 5 0 1775]) (M1 := M) rfl ?_
  obtain ⟨hc1, h⟩ := of_grd h
  refine Z_one k_X11_isAny rfl (pc' := 52) (lo' := [some (vR 0 21 0), some (vI a1), some (vI s0)]) (st' := [vI (M 5 (Int.toNat (o_add 37 a1)))]) (M1 := M) (if_pos hc1) ?_
  refine Z_if k_X11_isAny rfl 57 rfl (fun hc => ?_) (fun hc => ?_)
  · replace h := of_pos hc h
    refine Z_blk k_X11_isAny 1 (pc' := 58) (lo' := [some (vR 0 21 0), some (vI a1), some (vI s0)]) (st' := [vI s0]) (M1 := M) rfl ?_
    refine Z_if k_X11_isAny rfl 67 rfl (fun hc => ?_) (fun hc => ?_)
    · replace h := of_pos hc h
      refine Z_blk k_X11_isAny 5 (pc' := 75) (lo' := [some (vR 0 21 0), some (vI a1), some (vI s0)]) (st' := [vI (o_add 27 a1), vR 5 0 1775]) (M1 := M) rfl ?_
      obtain ⟨hc2, h⟩ := of_grd h
      refine Z_one k_X11_isAny rfl (pc' := 76) (lo' := [some (vR 0 21 0), some (vI a1), some (vI s0)]) (st' := [vI (M 5 (Int.toNat (o_add 27 a1)))]) (M1 := M) (if_pos hc2) ?_
      refine Z_blk k_X11_isAny 1 (pc' := 78) (lo' := [some (vR 0 21 0), some (vI a1), some (vI s0)]) (st' := [vI 9, vI (M 5 (Int.toNat (o_add 27 a1)))]) (M1 := M) rfl ?_
      refine Z_icmp k_X11_isAny rfl 83 rfl (fun hc => ?_) (fun hc => ?_)
      · replace h := of_pos hc h
        refine Z_blk k_X11_isAny 6 (pc' := 92) (lo' := [some (vR 0 21 0), some (vI a1), some (vI s0)]) (st' := [vI (o_add 27 a1), vR 5 0 1775, vI (o_add 27 a1), vR 5 0 1775]) (M1 := M) rfl ?_
        refine Z_one k_X11_isAny rfl (pc' := 93) (lo' := [some (vR 0 21 0), some (vI a1), some (vI s0)]) (st' := [vI (M 5 (Int.toNat (o_add 27 a1))), vI (o_add 27 a1), vR 5 0 1775]) (M1 := M) (if_pos hc2) ?_
        refine Z_blk k_X11_isAny 2 (pc' := 95) (lo' := [some (vR 0 21 0), some (vI a1), some (vI s0)]) (st' := [vI (o_add (M 5 (Int.toNat (o_add 27 a1))) 1), vI (o_add 27 a1), vR 5 0 1775]) (M1 := M) rfl ?_
        obtain ⟨M3, eM3, h⟩ := of_zlet h
        refine Z_one k_X11_isAny rfl (pc' := 96) (lo' := [some (vR 0 21 0), some (vI a1), some (vI s0)]) (st' := []) (M1 := M3) (by rw [eM3]; exact if_pos hc2) ?_
        refine Z_blk k_X11_isAny 1 (pc' := 97) (lo' := [some (vR 0 21 0), some (vI a1), some (vI s0)]) (st' := [vI 1]) (M1 := M3) rfl ?_
        cases h
        exact Z_ret ⟨Or.inr ⟨rfl, Or.inr rfl⟩, _, rfl⟩ rfl
      · replace h := of_neg hc h
        refine Z_blk k_X11_isAny 1 (pc' := 82) (lo' := [some (vR 0 21 0), some (vI a1), some (vI s0)]) (st' := [vI 0]) (M1 := M) rfl ?_
        cases h
        exact Z_ret ⟨Or.inr ⟨rfl, Or.inl rfl⟩, _, rfl⟩ rfl
    · replace h := of_neg hc h
      refine Z_blk k_X11_isAny 2 (pc' := 63) (lo' := [some (vR 0 21 0), some (vI a1), some (vI s0)]) (st' := [vI a1, vR 0 21 0]) (M1 := M) rfl ?_
      obtain ⟨x4, hx4, h⟩ := Option.bind_eq_some_iff.mp h
      refine Z_callV8 k_X11_isAny k_X11_isCut rfl rfl (l_11_456) (ci := 11) rfl [vI a1] [] rfl rfl (Nat.le_of_ble_eq_true rfl) (Nat.le_of_ble_eq_true rfl) (e_X11_isCut (d + 0) a1 M _ _ hx4) ?_
      obtain ⟨hc5, h⟩ := of_grd h
      cases h
      exact Z_ret ⟨Or.inr ⟨rfl, hc5⟩, _, rfl⟩ rfl
  · replace h := of_neg hc h
    refine Z_blk k_X11_isAny 1 (pc' := 56) (lo' := [some (vR 0 21 0), some (vI a1), some (vI s0)]) (st' := [vI 0]) (M1 := M) rfl ?_
    cases h
    exact Z_ret ⟨Or.inr ⟨rfl, Or.inl rfl⟩, _, rfl⟩ rfl
def f_X11_isAny (M : AM) : Option (Int × AM) := if ¬ M 5 (Int.toNat 1) = 0 then ((f_X11_draw (M 5 (Int.toNat 1)) M).bind fun x1 => (f_X11_draw 16 x1.2).bind fun x2 => if x2.2 5 (Int.toNat 4) ≤ x2.1 then f_X11_isAny_42 x1.1 0 x2.2 else f_X11_isAny_42 x1.1 1 x2.2) else some (0, M)
theorem e_X11_isAny {Y : List (Nat × Nat)} (d : Nat) (M : AM) (x : Int) (N : AM) (h : f_X11_isAny M = some (x, N)) : Ev Y (d + 2) m_X11_isAny 0 [some (vR 0 21 0), none, none] [] M (some (vI x)) N := by
  unfold f_X11_isAny at h
  refine Z_blk k_X11_isAny 3 (pc' := 5) (lo' := [some (vR 0 21 0), none, none]) (st' := [vI 1, vR 5 0 1775]) (M1 := M) rfl ?_
  refine Z_one k_X11_isAny rfl (pc' := 6) (lo' := [some (vR 0 21 0), none, none]) (st' := [vI (M 5 (Int.toNat 1))]) (M1 := M) (rfl) ?_
  refine Z_if k_X11_isAny rfl 11 rfl (fun hc => ?_) (fun hc => ?_)
  · replace h := of_pos hc h
    refine Z_blk k_X11_isAny 4 (pc' := 17) (lo' := [some (vR 0 21 0), none, none]) (st' := [vI 1, vR 5 0 1775, vR 0 21 0]) (M1 := M) rfl ?_
    refine Z_one k_X11_isAny rfl (pc' := 18) (lo' := [some (vR 0 21 0), none, none]) (st' := [vI (M 5 (Int.toNat 1)), vR 0 21 0]) (M1 := M) (rfl) ?_
    obtain ⟨x1, hx1, h⟩ := Option.bind_eq_some_iff.mp h
    refine Z_callV8 k_X11_isAny k_X11_draw rfl rfl (l_11_453) (ci := 11) rfl [vI (M 5 (Int.toNat 1))] [] rfl rfl (Nat.le_of_ble_eq_true rfl) (Nat.le_of_ble_eq_true rfl) (e_X11_draw (d + 1) (M 5 (Int.toNat 1)) M _ _ hx1) ?_
    refine Z_blk k_X11_isAny 3 (pc' := 25) (lo' := [some (vR 0 21 0), some (vI x1.1), none]) (st' := [vI 16, vR 0 21 0]) (M1 := x1.2) rfl ?_
    obtain ⟨x2, hx2, h⟩ := Option.bind_eq_some_iff.mp h
    refine Z_callV8 k_X11_isAny k_X11_draw rfl rfl (l_11_453) (ci := 11) rfl [vI 16] [] rfl rfl (Nat.le_of_ble_eq_true rfl) (Nat.le_of_ble_eq_true rfl) (e_X11_draw (d + 1) 16 x1.2 _ _ hx2) ?_
    refine Z_blk k_X11_isAny 3 (pc' := 33) (lo' := [some (vR 0 21 0), some (vI x1.1), none]) (st' := [vI 4, vR 5 0 1775, vI x2.1]) (M1 := x2.2) rfl ?_
    refine Z_one k_X11_isAny rfl (pc' := 34) (lo' := [some (vR 0 21 0), some (vI x1.1), none]) (st' := [vI (x2.2 5 (Int.toNat 4)), vI x2.1]) (M1 := x2.2) (rfl) ?_
    refine Z_icmp k_X11_isAny rfl 41 rfl (fun hc => ?_) (fun hc => ?_)
    · replace h := of_pos hc h
      refine Z_blk k_X11_isAny 1 (pc' := 42) (lo' := [some (vR 0 21 0), some (vI x1.1), none]) (st' := [vI 0]) (M1 := x2.2) rfl ?_
      refine Z_mask [true, true, false] (lo0 := [some (vR 0 21 0), some (vI x1.1), none]) rfl ?_
      exact e_X11_isAny_42 d x1.1 0 x2.2 _ _ h
    · replace h := of_neg hc h
      refine Z_blk k_X11_isAny 2 (pc' := 42) (lo' := [some (vR 0 21 0), some (vI x1.1), none]) (st' := [vI 1]) (M1 := x2.2) rfl ?_
      refine Z_mask [true, true, false] (lo0 := [some (vR 0 21 0), some (vI x1.1), none]) rfl ?_
      exact e_X11_isAny_42 d x1.1 1 x2.2 _ _ h
  · replace h := of_neg hc h
    refine Z_blk k_X11_isAny 1 (pc' := 10) (lo' := [some (vR 0 21 0), none, none]) (st' := [vI 0]) (M1 := M) rfl ?_
    cases h
    exact Z_ret ⟨Or.inr ⟨rfl, Or.inl rfl⟩, _, rfl⟩ rfl
def f_X11_isMended (a1 : Int) (M : AM) : Option (Int × AM) := (f_X11_canMend a1 M).bind fun x1 => if ¬ x1.1 = 0 then ((f_X11_repairs a1 x1.2).bind fun x2 => some (1, x2.2)) else some (0, x1.2)
theorem e_X11_isMended {Y : List (Nat × Nat)} (d : Nat) (a1 : Int) (M : AM) (x : Int) (N : AM) (h : f_X11_isMended a1 M = some (x, N)) : Ev Y (d + 1) m_X11_isMended 0 [some (vR 0 21 0), some (vI a1)] [] M (some (vI x)) N := by
  unfold f_X11_isMended at h
  refine Z_blk k_X11_isMended 2 (pc' := 2) (lo' := [some (vR 0 21 0), some (vI a1)]) (st' := [vI a1, vR 0 21 0]) (M1 := M) rfl ?_
  obtain ⟨x1, hx1, h⟩ := Option.bind_eq_some_iff.mp h
  refine Z_callV8 k_X11_isMended k_X11_canMend rfl rfl (l_11_367) (ci := 11) rfl [vI a1] [] rfl rfl (Nat.le_of_ble_eq_true rfl) (Nat.le_of_ble_eq_true rfl) (e_X11_canMend (d + 0) a1 M _ _ hx1) ?_
  refine Z_if k_X11_isMended rfl 10 rfl (fun hc => ?_) (fun hc => ?_)
  · replace h := of_pos hc h
    refine Z_blk k_X11_isMended 2 (pc' := 12) (lo' := [some (vR 0 21 0), some (vI a1)]) (st' := [vI a1, vR 0 21 0]) (M1 := x1.2) rfl ?_
    obtain ⟨x2, hx2, h⟩ := Option.bind_eq_some_iff.mp h
    refine Z_callV8 k_X11_isMended k_X11_repairs rfl rfl (l_11_370) (ci := 11) rfl [vI a1] [] rfl rfl (Nat.le_of_ble_eq_true rfl) (Nat.le_of_ble_eq_true rfl) (e_X11_repairs (d + 0) a1 x1.2 _ _ hx2) ?_
    refine Z_blk k_X11_isMended 2 (pc' := 17) (lo' := [some (vR 0 21 0), some (vI a1)]) (st' := [vI 1]) (M1 := x2.2) rfl ?_
    cases h
    exact Z_ret ⟨Or.inr ⟨rfl, Or.inr rfl⟩, _, rfl⟩ rfl
  · replace h := of_neg hc h
    refine Z_blk k_X11_isMended 1 (pc' := 9) (lo' := [some (vR 0 21 0), some (vI a1)]) (st' := [vI 0]) (M1 := x1.2) rfl ?_
    cases h
    exact Z_ret ⟨Or.inr ⟨rfl, Or.inl rfl⟩, _, rfl⟩ rfl
theorem l_11_459 : zhas 9002 (Jvm.Cond.methodLink "BellPullHouseModel" 459 yX11_anyDays) = true := by decide +kernel
theorem l_11_462 : zhas 9006 (Jvm.Cond.methodLink "BellPullHouseModel" 462 yX11_isMended) = true := by decide +kernel
theorem l_11_465 : zhas 9014 (Jvm.Cond.methodLink "BellPullHouseModel" 465 yX11_isAny) = true := by decide +kernel
def f_X11_does_85 (s1 : Int) (s2 : Int) (M : AM) : Option (Int × AM) := (f_X11_becomes s1 s2 M).bind fun x1 => if x1.1 = 0 ∨ x1.1 = 1 then some (x1.1, x1.2) else none
theorem e_X11_does_85 {Y : List (Nat × Nat)} (d : Nat) (s1 : Int) (s2 : Int) (M : AM) (x : Int) (N : AM) (h : f_X11_does_85 s1 s2 M = some (x, N)) : Ev Y (d + 5) m_X11_does 85 [none, none, none] [vI s2, vI s1, vR 0 21 0] M (some (vI x)) N := by
  unfold f_X11_does_85 at h
  obtain ⟨x1, hx1, h⟩ := Option.bind_eq_some_iff.mp h
  refine Z_callV8 k_X11_does k_X11_becomes rfl rfl (l_11_364) (ci := 11) rfl [vI s1, vI s2] [] rfl rfl (Nat.le_of_ble_eq_true rfl) (Nat.le_of_ble_eq_true rfl) (e_X11_becomes (d + 4) s1 s2 M _ _ hx1) ?_
  obtain ⟨hc2, h⟩ := of_grd h
  cases h
  exact Z_ret ⟨Or.inr ⟨rfl, hc2⟩, _, rfl⟩ rfl
def f_X11_does (a1 : Int) (M : AM) : Option (Int × AM) := if 0 ≤ a1 ∧ a1 < 1775 then (if ¬ M 5 (Int.toNat a1) = 0 then (if ¬ M 5 (Int.toNat a1) = 3 then (if ¬ M 5 (Int.toNat a1) = 4 then (if ¬ M 5 (Int.toNat a1) = 5 then (if ¬ M 5 (Int.toNat a1) = 1 then f_X11_does_85 6 0 M else f_X11_does_85 6 1 M) else ((f_X11_isAny M).bind fun x2 => if x2.1 = 0 ∨ x2.1 = 1 then some (x2.1, x2.2) else none)) else (if 0 ≤ o_add a1 1 ∧ o_add a1 1 < 1775 then ((f_X11_isCut (M 5 (Int.toNat (o_add a1 1))) M).bind fun x5 => if x5.1 = 0 ∨ x5.1 = 1 then some (x5.1, x5.2) else none) else none)) else (if 0 ≤ o_add a1 1 ∧ o_add a1 1 < 1775 then ((f_X11_isMended (M 5 (Int.toNat (o_add a1 1))) M).bind fun x8 => if x8.1 = 0 ∨ x8.1 = 1 then some (x8.1, x8.2) else none) else none)) else (if 0 ≤ o_add a1 1 ∧ o_add a1 1 < 1775 then ((f_X11_anyDays (M 5 (Int.toNat (o_add a1 1))) M).bind fun x11 => if x11.1 = 0 ∨ x11.1 = 1 then some (x11.1, x11.2) else none) else none)) else none
theorem e_X11_does {Y : List (Nat × Nat)} (d : Nat) (a1 : Int) (M : AM) (x : Int) (N : AM) (h : f_X11_does a1 M = some (x, N)) : Ev Y (d + 5) m_X11_does 0 [some (vR 0 21 0), some (vI a1), none] [] M (some (vI x)) N := by
  unfold f_X11_does at h
  refine Z_blk k_X11_does 3 (pc' := 5) (lo' := [some (vR 0 21 0), some (vI a1), none]) (st' := [vI a1, vR 5 0 1775]) (M1 := M) rfl ?_
  obtain ⟨hc1, h⟩ := of_grd h
  refine Z_one k_X11_does rfl (pc' := 6) (lo' := [some (vR 0 21 0), some (vI a1), none]) (st' := [vI (M 5 (Int.toNat a1))]) (M1 := M) (if_pos hc1) ?_
  refine Z_blk k_X11_does 2 (pc' := 8) (lo' := [some (vR 0 21 0), some (vI a1), some (vI (M 5 (Int.toNat a1)))]) (st' := [vI (M 5 (Int.toNat a1))]) (M1 := M) rfl ?_
  refine Z_if k_X11_does rfl 24 rfl (fun hc => ?_) (fun hc => ?_)
  · replace h := of_pos hc h
    refine Z_blk k_X11_does 2 (pc' := 26) (lo' := [some (vR 0 21 0), some (vI a1), some (vI (M 5 (Int.toNat a1)))]) (st' := [vI 3, vI (M 5 (Int.toNat a1))]) (M1 := M) rfl ?_
    refine Z_icmp k_X11_does rfl 42 rfl (fun hc => ?_) (fun hc => ?_)
    · replace h := of_pos hc h
      refine Z_blk k_X11_does 2 (pc' := 44) (lo' := [some (vR 0 21 0), some (vI a1), some (vI (M 5 (Int.toNat a1)))]) (st' := [vI 4, vI (M 5 (Int.toNat a1))]) (M1 := M) rfl ?_
      refine Z_icmp k_X11_does rfl 60 rfl (fun hc => ?_) (fun hc => ?_)
      · replace h := of_pos hc h
        refine Z_blk k_X11_does 2 (pc' := 62) (lo' := [some (vR 0 21 0), some (vI a1), some (vI (M 5 (Int.toNat a1)))]) (st' := [vI 5, vI (M 5 (Int.toNat a1))]) (M1 := M) rfl ?_
        refine Z_icmp k_X11_does rfl 72 rfl (fun hc => ?_) (fun hc => ?_)
        · replace h := of_pos hc h
          refine Z_blk k_X11_does 4 (pc' := 77) (lo' := [some (vR 0 21 0), some (vI a1), some (vI (M 5 (Int.toNat a1)))]) (st' := [vI 1, vI (M 5 (Int.toNat a1)), vI 6, vR 0 21 0]) (M1 := M) rfl ?_
          refine Z_icmp k_X11_does rfl 84 rfl (fun hc => ?_) (fun hc => ?_)
          · replace h := of_pos hc h
            refine Z_blk k_X11_does 1 (pc' := 85) (lo' := [some (vR 0 21 0), some (vI a1), some (vI (M 5 (Int.toNat a1)))]) (st' := [vI 0, vI 6, vR 0 21 0]) (M1 := M) rfl ?_
            refine Z_mask [false, false, false] (lo0 := [none, none, none]) rfl ?_
            exact e_X11_does_85 d 6 0 M _ _ h
          · replace h := of_neg hc h
            refine Z_blk k_X11_does 2 (pc' := 85) (lo' := [some (vR 0 21 0), some (vI a1), some (vI (M 5 (Int.toNat a1)))]) (st' := [vI 1, vI 6, vR 0 21 0]) (M1 := M) rfl ?_
            refine Z_mask [false, false, false] (lo0 := [none, none, none]) rfl ?_
            exact e_X11_does_85 d 6 1 M _ _ h
        · replace h := of_neg hc h
          refine Z_blk k_X11_does 1 (pc' := 66) (lo' := [some (vR 0 21 0), some (vI a1), some (vI (M 5 (Int.toNat a1)))]) (st' := [vR 0 21 0]) (M1 := M) rfl ?_
          obtain ⟨x2, hx2, h⟩ := Option.bind_eq_some_iff.mp h
          refine Z_callV8 k_X11_does k_X11_isAny rfl rfl (l_11_465) (ci := 11) rfl [] [] rfl rfl (Nat.le_of_ble_eq_true rfl) (Nat.le_of_ble_eq_true rfl) (e_X11_isAny (d + 2) M _ _ hx2) ?_
          refine Z_blk k_X11_does 1 (pc' := 88) (lo' := [some (vR 0 21 0), some (vI a1), some (vI (M 5 (Int.toNat a1)))]) (st' := [vI x2.1]) (M1 := x2.2) rfl ?_
          obtain ⟨hc3, h⟩ := of_grd h
          cases h
          exact Z_ret ⟨Or.inr ⟨rfl, hc3⟩, _, rfl⟩ rfl
      · replace h := of_neg hc h
        refine Z_blk k_X11_does 6 (pc' := 55) (lo' := [some (vR 0 21 0), some (vI a1), some (vI (M 5 (Int.toNat a1)))]) (st' := [vI (o_add a1 1), vR 5 0 1775, vR 0 21 0]) (M1 := M) rfl ?_
        obtain ⟨hc4, h⟩ := of_grd h
        refine Z_one k_X11_does rfl (pc' := 56) (lo' := [some (vR 0 21 0), some (vI a1), some (vI (M 5 (Int.toNat a1)))]) (st' := [vI (M 5 (Int.toNat (o_add a1 1))), vR 0 21 0]) (M1 := M) (if_pos hc4) ?_
        obtain ⟨x5, hx5, h⟩ := Option.bind_eq_some_iff.mp h
        refine Z_callV8 k_X11_does k_X11_isCut rfl rfl (l_11_456) (ci := 11) rfl [vI (M 5 (Int.toNat (o_add a1 1)))] [] rfl rfl (Nat.le_of_ble_eq_true rfl) (Nat.le_of_ble_eq_true rfl) (e_X11_isCut (d + 3) (M 5 (Int.toNat (o_add a1 1))) M _ _ hx5) ?_
        obtain ⟨hc6, h⟩ := of_grd h
        cases h
        exact Z_ret ⟨Or.inr ⟨rfl, hc6⟩, _, rfl⟩ rfl
    · replace h := of_neg hc h
      refine Z_blk k_X11_does 6 (pc' := 37) (lo' := [some (vR 0 21 0), some (vI a1), some (vI (M 5 (Int.toNat a1)))]) (st' := [vI (o_add a1 1), vR 5 0 1775, vR 0 21 0]) (M1 := M) rfl ?_
      obtain ⟨hc7, h⟩ := of_grd h
      refine Z_one k_X11_does rfl (pc' := 38) (lo' := [some (vR 0 21 0), some (vI a1), some (vI (M 5 (Int.toNat a1)))]) (st' := [vI (M 5 (Int.toNat (o_add a1 1))), vR 0 21 0]) (M1 := M) (if_pos hc7) ?_
      obtain ⟨x8, hx8, h⟩ := Option.bind_eq_some_iff.mp h
      refine Z_callV8 k_X11_does k_X11_isMended rfl rfl (l_11_462) (ci := 11) rfl [vI (M 5 (Int.toNat (o_add a1 1)))] [] rfl rfl (Nat.le_of_ble_eq_true rfl) (Nat.le_of_ble_eq_true rfl) (e_X11_isMended (d + 3) (M 5 (Int.toNat (o_add a1 1))) M _ _ hx8) ?_
      obtain ⟨hc9, h⟩ := of_grd h
      cases h
      exact Z_ret ⟨Or.inr ⟨rfl, hc9⟩, _, rfl⟩ rfl
  · replace h := of_neg hc h
    refine Z_blk k_X11_does 6 (pc' := 19) (lo' := [some (vR 0 21 0), some (vI a1), some (vI (M 5 (Int.toNat a1)))]) (st' := [vI (o_add a1 1), vR 5 0 1775, vR 0 21 0]) (M1 := M) rfl ?_
    obtain ⟨hc10, h⟩ := of_grd h
    refine Z_one k_X11_does rfl (pc' := 20) (lo' := [some (vR 0 21 0), some (vI a1), some (vI (M 5 (Int.toNat a1)))]) (st' := [vI (M 5 (Int.toNat (o_add a1 1))), vR 0 21 0]) (M1 := M) (if_pos hc10) ?_
    obtain ⟨x11, hx11, h⟩ := Option.bind_eq_some_iff.mp h
    refine Z_callV8 k_X11_does k_X11_anyDays rfl rfl (l_11_459) (ci := 11) rfl [vI (M 5 (Int.toNat (o_add a1 1)))] [] rfl rfl (Nat.le_of_ble_eq_true rfl) (Nat.le_of_ble_eq_true rfl) (e_X11_anyDays (d + 0) (M 5 (Int.toNat (o_add a1 1))) M _ _ hx11) ?_
    obtain ⟨hc12, h⟩ := of_grd h
    cases h
    exact Z_ret ⟨Or.inr ⟨rfl, hc12⟩, _, rfl⟩ rfl
def f_X11_isSo (a1 : Int) (M : AM) : Option (Int × AM) := if 0 ≤ o_add a1 5 ∧ o_add a1 5 < 1775 then (if 0 ≤ o_add a1 1 ∧ o_add a1 1 < 1775 then (if ¬ M 5 (Int.toNat (o_add a1 5)) = 0 then (if ¬ M 5 (Int.toNat (o_add a1 5)) = 2 then (if 0 ≤ o_add 59 (M 5 (Int.toNat (o_add a1 1))) ∧ o_add 59 (M 5 (Int.toNat (o_add a1 1))) < 1775 then (zlet (M 5 (Int.toNat (o_add 59 (M 5 (Int.toNat (o_add a1 1)))))) fun v4 => if 0 ≤ o_add a1 7 ∧ o_add a1 7 < 1775 then (if ¬ M 5 (Int.toNat (o_add a1 7)) = 60 then (if ¬ M 5 (Int.toNat (o_add a1 7)) = 62 then (if 0 ≤ o_add a1 6 ∧ o_add a1 6 < 1775 then (if ¬ v4 = M 5 (Int.toNat (o_add a1 6)) then some (0, M) else some (1, M)) else none) else (if 0 ≤ o_add a1 6 ∧ o_add a1 6 < 1775 then (if v4 ≤ M 5 (Int.toNat (o_add a1 6)) then some (0, M) else some (1, M)) else none)) else (if 0 ≤ o_add a1 6 ∧ o_add a1 6 < 1775 then (if M 5 (Int.toNat (o_add a1 6)) ≤ v4 then some (0, M) else some (1, M)) else none)) else none) else none) else (if 0 ≤ o_add 65 (M 5 (Int.toNat (o_add a1 1))) ∧ o_add 65 (M 5 (Int.toNat (o_add a1 1))) < 1775 then (if ¬ M 5 (Int.toNat (o_add 65 (M 5 (Int.toNat (o_add a1 1))))) = 0 then some (0, M) else some (1, M)) else none)) else ((f_X11_rung M).bind fun x10 => (f_X11_has x10.1 (M 5 (Int.toNat (o_add a1 1))) x10.2).bind fun x11 => if x11.1 = 0 ∨ x11.1 = 1 then some (x11.1, x11.2) else none)) else none) else none
theorem e_X11_isSo {Y : List (Nat × Nat)} (d : Nat) (a1 : Int) (M : AM) (x : Int) (N : AM) (h : f_X11_isSo a1 M = some (x, N)) : Ev Y (d + 4) m_X11_isSo 0 [some (vR 0 21 0), some (vI a1), none, none, none] [] M (some (vI x)) N := by
  unfold f_X11_isSo at h
  refine Z_blk k_X11_isSo 5 (pc' := 7) (lo' := [some (vR 0 21 0), some (vI a1), none, none, none]) (st' := [vI (o_add a1 5), vR 5 0 1775]) (M1 := M) rfl ?_
  obtain ⟨hc1, h⟩ := of_grd h
  refine Z_one k_X11_isSo rfl (pc' := 8) (lo' := [some (vR 0 21 0), some (vI a1), none, none, none]) (st' := [vI (M 5 (Int.toNat (o_add a1 5)))]) (M1 := M) (if_pos hc1) ?_
  refine Z_blk k_X11_isSo 6 (pc' := 16) (lo' := [some (vR 0 21 0), some (vI a1), some (vI (M 5 (Int.toNat (o_add a1 5)))), none, none]) (st' := [vI (o_add a1 1), vR 5 0 1775]) (M1 := M) rfl ?_
  obtain ⟨hc2, h⟩ := of_grd h
  refine Z_one k_X11_isSo rfl (pc' := 17) (lo' := [some (vR 0 21 0), some (vI a1), some (vI (M 5 (Int.toNat (o_add a1 5)))), none, none]) (st' := [vI (M 5 (Int.toNat (o_add a1 1)))]) (M1 := M) (if_pos hc2) ?_
  refine Z_blk k_X11_isSo 2 (pc' := 19) (lo' := [some (vR 0 21 0), some (vI a1), some (vI (M 5 (Int.toNat (o_add a1 5)))), some (vI (M 5 (Int.toNat (o_add a1 1)))), none]) (st' := [vI (M 5 (Int.toNat (o_add a1 5)))]) (M1 := M) rfl ?_
  refine Z_if k_X11_isSo rfl 31 rfl (fun hc => ?_) (fun hc => ?_)
  · replace h := of_pos hc h
    refine Z_blk k_X11_isSo 2 (pc' := 33) (lo' := [some (vR 0 21 0), some (vI a1), some (vI (M 5 (Int.toNat (o_add a1 5)))), some (vI (M 5 (Int.toNat (o_add a1 1)))), none]) (st' := [vI 2, vI (M 5 (Int.toNat (o_add a1 5)))]) (M1 := M) rfl ?_
    refine Z_icmp k_X11_isSo rfl 54 rfl (fun hc => ?_) (fun hc => ?_)
    · replace h := of_pos hc h
      refine Z_blk k_X11_isSo 5 (pc' := 62) (lo' := [some (vR 0 21 0), some (vI a1), some (vI (M 5 (Int.toNat (o_add a1 5)))), some (vI (M 5 (Int.toNat (o_add a1 1)))), none]) (st' := [vI (o_add 59 (M 5 (Int.toNat (o_add a1 1)))), vR 5 0 1775]) (M1 := M) rfl ?_
      obtain ⟨hc3, h⟩ := of_grd h
      refine Z_one k_X11_isSo rfl (pc' := 63) (lo' := [some (vR 0 21 0), some (vI a1), some (vI (M 5 (Int.toNat (o_add a1 5)))), some (vI (M 5 (Int.toNat (o_add a1 1)))), none]) (st' := [vI (M 5 (Int.toNat (o_add 59 (M 5 (Int.toNat (o_add a1 1))))))]) (M1 := M) (if_pos hc3) ?_
      obtain ⟨v4, ev4, h⟩ := of_zlet h
      refine Z_blk k_X11_isSo 1 (pc' := 65) (lo' := [some (vR 0 21 0), some (vI a1), some (vI (M 5 (Int.toNat (o_add a1 5)))), some (vI (M 5 (Int.toNat (o_add a1 1)))), some (vI v4)]) (st' := []) (M1 := M) (by rw [ev4]; rfl) ?_
      refine Z_blk k_X11_isSo 5 (pc' := 73) (lo' := [some (vR 0 21 0), some (vI a1), some (vI (M 5 (Int.toNat (o_add a1 5)))), some (vI (M 5 (Int.toNat (o_add a1 1)))), some (vI v4)]) (st' := [vI (o_add a1 7), vR 5 0 1775]) (M1 := M) rfl ?_
      obtain ⟨hc5, h⟩ := of_grd h
      refine Z_one k_X11_isSo rfl (pc' := 74) (lo' := [some (vR 0 21 0), some (vI a1), some (vI (M 5 (Int.toNat (o_add a1 5)))), some (vI (M 5 (Int.toNat (o_add a1 1)))), some (vI v4)]) (st' := [vI (M 5 (Int.toNat (o_add a1 7)))]) (M1 := M) (if_pos hc5) ?_
      refine Z_blk k_X11_isSo 1 (pc' := 76) (lo' := [some (vR 0 21 0), some (vI a1), some (vI (M 5 (Int.toNat (o_add a1 5)))), some (vI (M 5 (Int.toNat (o_add a1 1)))), some (vI v4)]) (st' := [vI 60, vI (M 5 (Int.toNat (o_add a1 7)))]) (M1 := M) rfl ?_
      refine Z_icmp k_X11_isSo rfl 101 rfl (fun hc => ?_) (fun hc => ?_)
      · replace h := of_pos hc h
        refine Z_blk k_X11_isSo 5 (pc' := 109) (lo' := [some (vR 0 21 0), some (vI a1), some (vI (M 5 (Int.toNat (o_add a1 5)))), some (vI (M 5 (Int.toNat (o_add a1 1)))), some (vI v4)]) (st' := [vI (o_add a1 7), vR 5 0 1775]) (M1 := M) rfl ?_
        refine Z_one k_X11_isSo rfl (pc' := 110) (lo' := [some (vR 0 21 0), some (vI a1), some (vI (M 5 (Int.toNat (o_add a1 5)))), some (vI (M 5 (Int.toNat (o_add a1 1)))), some (vI v4)]) (st' := [vI (M 5 (Int.toNat (o_add a1 7)))]) (M1 := M) (if_pos hc5) ?_
        refine Z_blk k_X11_isSo 1 (pc' := 112) (lo' := [some (vR 0 21 0), some (vI a1), some (vI (M 5 (Int.toNat (o_add a1 5)))), some (vI (M 5 (Int.toNat (o_add a1 1)))), some (vI v4)]) (st' := [vI 62, vI (M 5 (Int.toNat (o_add a1 7)))]) (M1 := M) rfl ?_
        refine Z_icmp k_X11_isSo rfl 137 rfl (fun hc => ?_) (fun hc => ?_)
        · replace h := of_pos hc h
          refine Z_blk k_X11_isSo 6 (pc' := 147) (lo' := [some (vR 0 21 0), some (vI a1), some (vI (M 5 (Int.toNat (o_add a1 5)))), some (vI (M 5 (Int.toNat (o_add a1 1)))), some (vI v4)]) (st' := [vI (o_add a1 6), vR 5 0 1775, vI v4]) (M1 := M) rfl ?_
          obtain ⟨hc6, h⟩ := of_grd h
          refine Z_one k_X11_isSo rfl (pc' := 148) (lo' := [some (vR 0 21 0), some (vI a1), some (vI (M 5 (Int.toNat (o_add a1 5)))), some (vI (M 5 (Int.toNat (o_add a1 1)))), some (vI v4)]) (st' := [vI (M 5 (Int.toNat (o_add a1 6))), vI v4]) (M1 := M) (if_pos hc6) ?_
          refine Z_icmp k_X11_isSo rfl 155 rfl (fun hc => ?_) (fun hc => ?_)
          · replace h := of_pos hc h
            refine Z_blk k_X11_isSo 1 (pc' := 156) (lo' := [some (vR 0 21 0), some (vI a1), some (vI (M 5 (Int.toNat (o_add a1 5)))), some (vI (M 5 (Int.toNat (o_add a1 1)))), some (vI v4)]) (st' := [vI 0]) (M1 := M) rfl ?_
            cases h
            exact Z_ret ⟨Or.inr ⟨rfl, Or.inl rfl⟩, _, rfl⟩ rfl
          · replace h := of_neg hc h
            refine Z_blk k_X11_isSo 2 (pc' := 156) (lo' := [some (vR 0 21 0), some (vI a1), some (vI (M 5 (Int.toNat (o_add a1 5)))), some (vI (M 5 (Int.toNat (o_add a1 1)))), some (vI v4)]) (st' := [vI 1]) (M1 := M) rfl ?_
            cases h
            exact Z_ret ⟨Or.inr ⟨rfl, Or.inr rfl⟩, _, rfl⟩ rfl
        · replace h := of_neg hc h
          refine Z_blk k_X11_isSo 6 (pc' := 125) (lo' := [some (vR 0 21 0), some (vI a1), some (vI (M 5 (Int.toNat (o_add a1 5)))), some (vI (M 5 (Int.toNat (o_add a1 1)))), some (vI v4)]) (st' := [vI (o_add a1 6), vR 5 0 1775, vI v4]) (M1 := M) rfl ?_
          obtain ⟨hc7, h⟩ := of_grd h
          refine Z_one k_X11_isSo rfl (pc' := 126) (lo' := [some (vR 0 21 0), some (vI a1), some (vI (M 5 (Int.toNat (o_add a1 5)))), some (vI (M 5 (Int.toNat (o_add a1 1)))), some (vI v4)]) (st' := [vI (M 5 (Int.toNat (o_add a1 6))), vI v4]) (M1 := M) (if_pos hc7) ?_
          refine Z_icmp k_X11_isSo rfl 133 rfl (fun hc => ?_) (fun hc => ?_)
          · replace h := of_pos hc h
            refine Z_blk k_X11_isSo 2 (pc' := 156) (lo' := [some (vR 0 21 0), some (vI a1), some (vI (M 5 (Int.toNat (o_add a1 5)))), some (vI (M 5 (Int.toNat (o_add a1 1)))), some (vI v4)]) (st' := [vI 0]) (M1 := M) rfl ?_
            cases h
            exact Z_ret ⟨Or.inr ⟨rfl, Or.inl rfl⟩, _, rfl⟩ rfl
          · replace h := of_neg hc h
            refine Z_blk k_X11_isSo 2 (pc' := 156) (lo' := [some (vR 0 21 0), some (vI a1), some (vI (M 5 (Int.toNat (o_add a1 5)))), some (vI (M 5 (Int.toNat (o_add a1 1)))), some (vI v4)]) (st' := [vI 1]) (M1 := M) rfl ?_
            cases h
            exact Z_ret ⟨Or.inr ⟨rfl, Or.inr rfl⟩, _, rfl⟩ rfl
      · replace h := of_neg hc h
        refine Z_blk k_X11_isSo 6 (pc' := 89) (lo' := [some (vR 0 21 0), some (vI a1), some (vI (M 5 (Int.toNat (o_add a1 5)))), some (vI (M 5 (Int.toNat (o_add a1 1)))), some (vI v4)]) (st' := [vI (o_add a1 6), vR 5 0 1775, vI v4]) (M1 := M) rfl ?_
        obtain ⟨hc8, h⟩ := of_grd h
        refine Z_one k_X11_isSo rfl (pc' := 90) (lo' := [some (vR 0 21 0), some (vI a1), some (vI (M 5 (Int.toNat (o_add a1 5)))), some (vI (M 5 (Int.toNat (o_add a1 1)))), some (vI v4)]) (st' := [vI (M 5 (Int.toNat (o_add a1 6))), vI v4]) (M1 := M) (if_pos hc8) ?_
        refine Z_icmp k_X11_isSo rfl 97 rfl (fun hc => ?_) (fun hc => ?_)
        · replace h := of_pos hc h
          refine Z_blk k_X11_isSo 2 (pc' := 156) (lo' := [some (vR 0 21 0), some (vI a1), some (vI (M 5 (Int.toNat (o_add a1 5)))), some (vI (M 5 (Int.toNat (o_add a1 1)))), some (vI v4)]) (st' := [vI 0]) (M1 := M) rfl ?_
          cases h
          exact Z_ret ⟨Or.inr ⟨rfl, Or.inl rfl⟩, _, rfl⟩ rfl
        · replace h := of_neg hc h
          refine Z_blk k_X11_isSo 2 (pc' := 156) (lo' := [some (vR 0 21 0), some (vI a1), some (vI (M 5 (Int.toNat (o_add a1 5)))), some (vI (M 5 (Int.toNat (o_add a1 1)))), some (vI v4)]) (st' := [vI 1]) (M1 := M) rfl ?_
          cases h
          exact Z_ret ⟨Or.inr ⟨rfl, Or.inr rfl⟩, _, rfl⟩ rfl
    · replace h := of_neg hc h
      refine Z_blk k_X11_isSo 5 (pc' := 44) (lo' := [some (vR 0 21 0), some (vI a1), some (vI (M 5 (Int.toNat (o_add a1 5)))), some (vI (M 5 (Int.toNat (o_add a1 1)))), none]) (st' := [vI (o_add 65 (M 5 (Int.toNat (o_add a1 1)))), vR 5 0 1775]) (M1 := M) rfl ?_
      obtain ⟨hc9, h⟩ := of_grd h
      refine Z_one k_X11_isSo rfl (pc' := 45) (lo' := [some (vR 0 21 0), some (vI a1), some (vI (M 5 (Int.toNat (o_add a1 5)))), some (vI (M 5 (Int.toNat (o_add a1 1)))), none]) (st' := [vI (M 5 (Int.toNat (o_add 65 (M 5 (Int.toNat (o_add a1 1))))))]) (M1 := M) (if_pos hc9) ?_
      refine Z_if k_X11_isSo rfl 52 rfl (fun hc => ?_) (fun hc => ?_)
      · replace h := of_pos hc h
        refine Z_blk k_X11_isSo 1 (pc' := 53) (lo' := [some (vR 0 21 0), some (vI a1), some (vI (M 5 (Int.toNat (o_add a1 5)))), some (vI (M 5 (Int.toNat (o_add a1 1)))), none]) (st' := [vI 0]) (M1 := M) rfl ?_
        cases h
        exact Z_ret ⟨Or.inr ⟨rfl, Or.inl rfl⟩, _, rfl⟩ rfl
      · replace h := of_neg hc h
        refine Z_blk k_X11_isSo 2 (pc' := 53) (lo' := [some (vR 0 21 0), some (vI a1), some (vI (M 5 (Int.toNat (o_add a1 5)))), some (vI (M 5 (Int.toNat (o_add a1 1)))), none]) (st' := [vI 1]) (M1 := M) rfl ?_
        cases h
        exact Z_ret ⟨Or.inr ⟨rfl, Or.inr rfl⟩, _, rfl⟩ rfl
  · replace h := of_neg hc h
    refine Z_blk k_X11_isSo 1 (pc' := 23) (lo' := [some (vR 0 21 0), some (vI a1), some (vI (M 5 (Int.toNat (o_add a1 5)))), some (vI (M 5 (Int.toNat (o_add a1 1)))), none]) (st' := [vR 0 21 0]) (M1 := M) rfl ?_
    obtain ⟨x10, hx10, h⟩ := Option.bind_eq_some_iff.mp h
    refine Z_callV8 k_X11_isSo k_X11_rung rfl rfl (l_11_332) (ci := 11) rfl [] [] rfl rfl (Nat.le_of_ble_eq_true rfl) (Nat.le_of_ble_eq_true rfl) (e_X11_rung (d + 0) M _ _ hx10) ?_
    refine Z_blk k_X11_isSo 1 (pc' := 27) (lo' := [some (vR 0 21 0), some (vI a1), some (vI (M 5 (Int.toNat (o_add a1 5)))), some (vI (M 5 (Int.toNat (o_add a1 1)))), none]) (st' := [vI (M 5 (Int.toNat (o_add a1 1))), vI x10.1]) (M1 := x10.2) rfl ?_
    obtain ⟨x11, hx11, h⟩ := Option.bind_eq_some_iff.mp h
    refine Z_callS8 k_X11_isSo k_X11_has rfl rfl (l_11_108) [vI x10.1, vI (M 5 (Int.toNat (o_add a1 1)))] [] rfl rfl (Nat.le_of_ble_eq_true rfl) (Nat.le_of_ble_eq_true rfl) (e_X11_has (d + 3) x10.1 (M 5 (Int.toNat (o_add a1 1))) x10.2 _ _ hx11) ?_
    obtain ⟨hc12, h⟩ := of_grd h
    cases h
    exact Z_ret ⟨Or.inr ⟨rfl, hc12⟩, _, rfl⟩ rfl
theorem l_11_490 : zhas 8234 (Jvm.Cond.methodLink "BellPullHouseModel" 490 yX11_doOne) = true := by decide +kernel
def f_X11_doAll_2 (r_X11_doOne : Int → AM → Option (AM)) : Nat → Int → Int → AM → Option (AM)
  | 0, _, _, _ => none
  | n + 1, a2, a3, M => if a2 ≤ a3 then some M else (if ¬ M 0 35 = 0 then some M else ((r_X11_doOne a3 M).bind fun x1 => if 0 ≤ o_add (o_add 85 (o_mul 9 a3)) 8 ∧ o_add (o_add 85 (o_mul 9 a3)) 8 < 1775 then (zlet (x1 5 (Int.toNat (o_add (o_add 85 (o_mul 9 a3)) 8))) fun v3 => f_X11_doAll_2 r_X11_doOne n a2 v3 x1) else none))
theorem e_X11_doAll_2 {Y : List (Nat × Nat)} (d : Nat) (r_X11_doOne : Int → AM → Option (AM)) (hr_X11_doOne : ∀ (a1 : Int) (M : AM) (N : AM), r_X11_doOne a1 M = some N → Ev Y (d + 5) m_X11_doOne 0 [some (vR 0 21 0), some (vI a1), none, none, none] [] M none N) : ∀ (n : Nat) (a2 : Int) (a3 : Int) (M : AM) (N : AM), f_X11_doAll_2 r_X11_doOne n a2 a3 M = some N → Ev Y (d + 6) m_X11_doAll 2 [some (vR 0 21 0), none, some (vI a2), some (vI a3)] [] M none N := by
  intro n
  induction n with
  | zero => intro a2 a3 M N h; cases h
  | succ n ih =>
    intro a2 a3 M N h
    simp only [f_X11_doAll_2] at h
    refine Z_blk k_X11_doAll 2 (pc' := 4) (lo' := [some (vR 0 21 0), none, some (vI a2), some (vI a3)]) (st' := [vI a2, vI a3]) (M1 := M) rfl ?_
    refine Z_icmp k_X11_doAll rfl 38 rfl (fun hc => ?_) (fun hc => ?_)
    · replace h := of_pos hc h
      cases h
      exact Z_ret ⟨rfl, _, rfl⟩ rfl
    · replace h := of_neg hc h
      refine Z_blk k_X11_doAll 2 (pc' := 11) (lo' := [some (vR 0 21 0), none, some (vI a2), some (vI a3)]) (st' := [vI (M 0 35)]) (M1 := M) rfl ?_
      refine Z_if k_X11_doAll rfl 38 rfl (fun hc => ?_) (fun hc => ?_)
      · replace h := of_pos hc h
        cases h
        exact Z_ret ⟨rfl, _, rfl⟩ rfl
      · replace h := of_neg hc h
        refine Z_blk k_X11_doAll 2 (pc' := 16) (lo' := [some (vR 0 21 0), none, some (vI a2), some (vI a3)]) (st' := [vI a3, vR 0 21 0]) (M1 := M) rfl ?_
        obtain ⟨x1, hx1, h⟩ := Option.bind_eq_some_iff.mp h
        refine Z_callV8 k_X11_doAll k_X11_doOne rfl rfl (l_11_490) (ci := 11) rfl [vI a3] [] rfl rfl (Nat.le_of_ble_eq_true rfl) (Nat.le_of_ble_eq_true rfl) (hr_X11_doOne a3 M _ hx1) ?_
        refine Z_blk k_X11_doAll 9 (pc' := 33) (lo' := [some (vR 0 21 0), none, some (vI a2), some (vI a3)]) (st' := [vI (o_add (o_add 85 (o_mul 9 a3)) 8), vR 5 0 1775]) (M1 := x1) rfl ?_
        obtain ⟨hc2, h⟩ := of_grd h
        refine Z_one k_X11_doAll rfl (pc' := 34) (lo' := [some (vR 0 21 0), none, some (vI a2), some (vI a3)]) (st' := [vI (x1 5 (Int.toNat (o_add (o_add 85 (o_mul 9 a3)) 8)))]) (M1 := x1) (if_pos hc2) ?_
        obtain ⟨v3, ev3, h⟩ := of_zlet h
        refine Z_blk k_X11_doAll 1 (pc' := 35) (lo' := [some (vR 0 21 0), none, some (vI a2), some (vI v3)]) (st' := []) (M1 := x1) (by rw [ev3]; rfl) ?_
        refine Z_blk k_X11_doAll 1 (pc' := 2) (lo' := [some (vR 0 21 0), none, some (vI a2), some (vI v3)]) (st' := []) (M1 := x1) rfl ?_
        refine Z_mask [true, false, true, true] (lo0 := [some (vR 0 21 0), none, some (vI a2), some (vI v3)]) rfl ?_
        exact ih a2 v3 x1 _ h
def fo_X11_doAll (r_X11_doOne : Int → AM → Option (AM)) (a1 : Int) (a2 : Int) (M : AM) : Option (AM) := f_X11_doAll_2 r_X11_doOne zB a2 a1 M
theorem eo_X11_doAll {Y : List (Nat × Nat)} (d : Nat) (r_X11_doOne : Int → AM → Option (AM)) (hr_X11_doOne : ∀ (a1 : Int) (M : AM) (N : AM), r_X11_doOne a1 M = some N → Ev Y (d + 5) m_X11_doOne 0 [some (vR 0 21 0), some (vI a1), none, none, none] [] M none N) (a1 : Int) (a2 : Int) (M : AM) (N : AM) (h : fo_X11_doAll r_X11_doOne a1 a2 M = some N) : Ev Y (d + 6) m_X11_doAll 0 [some (vR 0 21 0), some (vI a1), some (vI a2), none] [] M none N := by
  unfold fo_X11_doAll at h
  refine Z_blk k_X11_doAll 2 (pc' := 2) (lo' := [some (vR 0 21 0), some (vI a1), some (vI a2), some (vI a1)]) (st' := []) (M1 := M) rfl ?_
  refine Z_mask [true, false, true, true] (lo0 := [some (vR 0 21 0), none, some (vI a2), some (vI a1)]) rfl ?_
  exact e_X11_doAll_2 d r_X11_doOne hr_X11_doOne zB a2 a1 M _ h
theorem l_11_481 : zhas 8238 (Jvm.Cond.methodLink "BellPullHouseModel" 481 yX11_does) = true := by decide +kernel
theorem l_11_484 : zhas 9023 (Jvm.Cond.methodLink "BellPullHouseModel" 484 yX11_isSo) = true := by decide +kernel
theorem l_11_487 : zhas 8230 (Jvm.Cond.methodLink "BellPullHouseModel" 487 yX11_doAll) = true := by decide +kernel
def f_X11_doOne_119 (r_X11_doAll : Int → Int → AM → Option (AM)) : Nat → Int → Int → Int → AM → Option (AM)
  | 0, _, _, _, _ => none
  | n + 1, a1, a2, a4, M => if 0 ≤ o_add a2 1 ∧ o_add a2 1 < 1775 then (if M 5 (Int.toNat (o_add a2 1)) ≤ a4 then some M else (if ¬ M 0 35 = 0 then some M else (if 0 ≤ o_add a2 8 ∧ o_add a2 8 < 1775 then ((r_X11_doAll (o_add a1 1) (M 5 (Int.toNat (o_add a2 8))) M).bind fun x3 => f_X11_doOne_119 r_X11_doAll n a1 a2 (o_add a4 1) x3) else none))) else none
theorem e_X11_doOne_119 {Y : List (Nat × Nat)} (d : Nat) (r_X11_doAll : Int → Int → AM → Option (AM)) (hr_X11_doAll : ∀ (a1 : Int) (a2 : Int) (M : AM) (N : AM), r_X11_doAll a1 a2 M = some N → Ev Y (d + 5) m_X11_doAll 0 [some (vR 0 21 0), some (vI a1), some (vI a2), none] [] M none N) : ∀ (n : Nat) (a1 : Int) (a2 : Int) (a4 : Int) (M : AM) (N : AM), f_X11_doOne_119 r_X11_doAll n a1 a2 a4 M = some N → Ev Y (d + 6) m_X11_doOne 119 [some (vR 0 21 0), some (vI a1), some (vI a2), none, some (vI a4)] [] M none N := by
  intro n
  induction n with
  | zero => intro a1 a2 a4 M N h; cases h
  | succ n ih =>
    intro a1 a2 a4 M N h
    simp only [f_X11_doOne_119] at h
    refine Z_blk k_X11_doOne 6 (pc' := 128) (lo' := [some (vR 0 21 0), some (vI a1), some (vI a2), none, some (vI a4)]) (st' := [vI (o_add a2 1), vR 5 0 1775, vI a4]) (M1 := M) rfl ?_
    obtain ⟨hc1, h⟩ := of_grd h
    refine Z_one k_X11_doOne rfl (pc' := 129) (lo' := [some (vR 0 21 0), some (vI a1), some (vI a2), none, some (vI a4)]) (st' := [vI (M 5 (Int.toNat (o_add a2 1))), vI a4]) (M1 := M) (if_pos hc1) ?_
    refine Z_icmp k_X11_doOne rfl 161 rfl (fun hc => ?_) (fun hc => ?_)
    · replace h := of_pos hc h
      refine Z_blk k_X11_doOne 1 (pc' := 175) (lo' := [some (vR 0 21 0), some (vI a1), some (vI a2), none, some (vI a4)]) (st' := []) (M1 := M) rfl ?_
      cases h
      exact Z_ret ⟨rfl, _, rfl⟩ rfl
    · replace h := of_neg hc h
      refine Z_blk k_X11_doOne 2 (pc' := 136) (lo' := [some (vR 0 21 0), some (vI a1), some (vI a2), none, some (vI a4)]) (st' := [vI (M 0 35)]) (M1 := M) rfl ?_
      refine Z_if k_X11_doOne rfl 161 rfl (fun hc => ?_) (fun hc => ?_)
      · replace h := of_pos hc h
        refine Z_blk k_X11_doOne 1 (pc' := 175) (lo' := [some (vR 0 21 0), some (vI a1), some (vI a2), none, some (vI a4)]) (st' := []) (M1 := M) rfl ?_
        cases h
        exact Z_ret ⟨rfl, _, rfl⟩ rfl
      · replace h := of_neg hc h
        refine Z_blk k_X11_doOne 9 (pc' := 151) (lo' := [some (vR 0 21 0), some (vI a1), some (vI a2), none, some (vI a4)]) (st' := [vI (o_add a2 8), vR 5 0 1775, vI (o_add a1 1), vR 0 21 0]) (M1 := M) rfl ?_
        obtain ⟨hc2, h⟩ := of_grd h
        refine Z_one k_X11_doOne rfl (pc' := 152) (lo' := [some (vR 0 21 0), some (vI a1), some (vI a2), none, some (vI a4)]) (st' := [vI (M 5 (Int.toNat (o_add a2 8))), vI (o_add a1 1), vR 0 21 0]) (M1 := M) (if_pos hc2) ?_
        obtain ⟨x3, hx3, h⟩ := Option.bind_eq_some_iff.mp h
        refine Z_callV8 k_X11_doOne k_X11_doAll rfl rfl (l_11_487) (ci := 11) rfl [vI (o_add a1 1), vI (M 5 (Int.toNat (o_add a2 8)))] [] rfl rfl (Nat.le_of_ble_eq_true rfl) (Nat.le_of_ble_eq_true rfl) (hr_X11_doAll (o_add a1 1) (M 5 (Int.toNat (o_add a2 8))) M _ hx3) ?_
        refine Z_blk k_X11_doOne 2 (pc' := 119) (lo' := [some (vR 0 21 0), some (vI a1), some (vI a2), none, some (vI (o_add a4 1))]) (st' := []) (M1 := x3) rfl ?_
        refine Z_mask [true, true, true, false, true] (lo0 := [some (vR 0 21 0), some (vI a1), some (vI a2), none, some (vI (o_add a4 1))]) rfl ?_
        exact ih a1 a2 (o_add a4 1) x3 _ h
def f_X11_doOne_110 (r_X11_doAll : Int → Int → AM → Option (AM)) (a1 : Int) (a2 : Int) (a3 : Int) (M : AM) : Option (AM) := if ¬ a3 = 7 then (if a3 ≤ 7 then some M else (zlet (am_upd M 0 35 1) fun M1 => some M1)) else f_X11_doOne_119 r_X11_doAll zB a1 a2 0 M
theorem e_X11_doOne_110 {Y : List (Nat × Nat)} (d : Nat) (r_X11_doAll : Int → Int → AM → Option (AM)) (hr_X11_doAll : ∀ (a1 : Int) (a2 : Int) (M : AM) (N : AM), r_X11_doAll a1 a2 M = some N → Ev Y (d + 5) m_X11_doAll 0 [some (vR 0 21 0), some (vI a1), some (vI a2), none] [] M none N) (a1 : Int) (a2 : Int) (a3 : Int) (M : AM) (N : AM) (h : f_X11_doOne_110 r_X11_doAll a1 a2 a3 M = some N) : Ev Y (d + 6) m_X11_doOne 110 [some (vR 0 21 0), some (vI a1), some (vI a2), some (vI a3), none] [] M none N := by
  unfold f_X11_doOne_110 at h
  refine Z_blk k_X11_doOne 2 (pc' := 113) (lo' := [some (vR 0 21 0), some (vI a1), some (vI a2), some (vI a3), none]) (st' := [vI 7, vI a3]) (M1 := M) rfl ?_
  refine Z_icmp k_X11_doOne rfl 164 rfl (fun hc => ?_) (fun hc => ?_)
  · replace h := of_pos hc h
    refine Z_blk k_X11_doOne 2 (pc' := 167) (lo' := [some (vR 0 21 0), some (vI a1), some (vI a2), some (vI a3), none]) (st' := [vI 7, vI a3]) (M1 := M) rfl ?_
    refine Z_icmp k_X11_doOne rfl 175 rfl (fun hc => ?_) (fun hc => ?_)
    · replace h := of_pos hc h
      cases h
      exact Z_ret ⟨rfl, _, rfl⟩ rfl
    · replace h := of_neg hc h
      obtain ⟨M1, eM1, h⟩ := of_zlet h
      refine Z_blk k_X11_doOne 3 (pc' := 175) (lo' := [some (vR 0 21 0), some (vI a1), some (vI a2), some (vI a3), none]) (st' := []) (M1 := M1) (by rw [eM1]; rfl) ?_
      cases h
      exact Z_ret ⟨rfl, _, rfl⟩ rfl
  · replace h := of_neg hc h
    refine Z_blk k_X11_doOne 2 (pc' := 119) (lo' := [some (vR 0 21 0), some (vI a1), some (vI a2), some (vI a3), some (vI 0)]) (st' := []) (M1 := M) rfl ?_
    refine Z_mask [true, true, true, false, true] (lo0 := [some (vR 0 21 0), some (vI a1), some (vI a2), none, some (vI 0)]) rfl ?_
    exact e_X11_doOne_119 d r_X11_doAll hr_X11_doAll zB a1 a2 0 M _ h
def fo_X11_doOne (r_X11_doAll : Int → Int → AM → Option (AM)) (a1 : Int) (M : AM) : Option (AM) := if ¬ M 0 37 = 300 then (zlet (am_upd M 0 37 (o_add (M 0 37) 1)) fun M1 => if 0 ≤ o_add 85 (o_mul 9 a1) ∧ o_add 85 (o_mul 9 a1) < 1775 then (if 6 ≤ M1 5 (Int.toNat (o_add 85 (o_mul 9 a1))) then (if ¬ M1 5 (Int.toNat (o_add 85 (o_mul 9 a1))) = 6 then f_X11_doOne_110 r_X11_doAll a1 (o_add 85 (o_mul 9 a1)) (M1 5 (Int.toNat (o_add 85 (o_mul 9 a1)))) M1 else ((f_X11_isSo (o_add 85 (o_mul 9 a1)) M1).bind fun x3 => if x3.1 = 0 then f_X11_doOne_110 r_X11_doAll a1 (o_add 85 (o_mul 9 a1)) (M1 5 (Int.toNat (o_add 85 (o_mul 9 a1)))) x3.2 else (if 0 ≤ o_add (o_add 85 (o_mul 9 a1)) 8 ∧ o_add (o_add 85 (o_mul 9 a1)) 8 < 1775 then ((r_X11_doAll (o_add a1 1) (x3.2 5 (Int.toNat (o_add (o_add 85 (o_mul 9 a1)) 8))) x3.2).bind fun x5 => some x5) else none))) else ((f_X11_does (o_add 85 (o_mul 9 a1)) M1).bind fun x6 => if x6.1 = 0 then (zlet (am_upd x6.2 0 38 (o_add (M1 0 38) 1)) fun M7 => some M7) else (zlet (am_upd x6.2 0 38 (o_add (M1 0 38) 0)) fun M8 => some M8))) else none) else (zlet (am_upd M 0 35 1) fun M9 => zlet (am_upd M9 0 42 1) fun M10 => some M10)
theorem eo_X11_doOne {Y : List (Nat × Nat)} (d : Nat) (r_X11_doAll : Int → Int → AM → Option (AM)) (hr_X11_doAll : ∀ (a1 : Int) (a2 : Int) (M : AM) (N : AM), r_X11_doAll a1 a2 M = some N → Ev Y (d + 5) m_X11_doAll 0 [some (vR 0 21 0), some (vI a1), some (vI a2), none] [] M none N) (a1 : Int) (M : AM) (N : AM) (h : fo_X11_doOne r_X11_doAll a1 M = some N) : Ev Y (d + 6) m_X11_doOne 0 [some (vR 0 21 0), some (vI a1), none, none, none] [] M none N := by
  unfold fo_X11_doOne at h
  refine Z_blk k_X11_doOne 3 (pc' := 7) (lo' := [some (vR 0 21 0), some (vI a1), none, none, none]) (st' := [vI 300, vI (M 0 37)]) (M1 := M) rfl ?_
  refine Z_icmp k_X11_doOne rfl 21 rfl (fun hc => ?_) (fun hc => ?_)
  · replace h := of_pos hc h
    obtain ⟨M1, eM1, h⟩ := of_zlet h
    refine Z_blk k_X11_doOne 6 (pc' := 31) (lo' := [some (vR 0 21 0), some (vI a1), none, none, none]) (st' := []) (M1 := M1) (by rw [eM1]; rfl) ?_
    refine Z_blk k_X11_doOne 9 (pc' := 44) (lo' := [some (vR 0 21 0), some (vI a1), some (vI (o_add 85 (o_mul 9 a1))), none, none]) (st' := [vI (o_add 85 (o_mul 9 a1)), vR 5 0 1775]) (M1 := M1) rfl ?_
    obtain ⟨hc2, h⟩ := of_grd h
    refine Z_one k_X11_doOne rfl (pc' := 45) (lo' := [some (vR 0 21 0), some (vI a1), some (vI (o_add 85 (o_mul 9 a1))), none, none]) (st' := [vI (M1 5 (Int.toNat (o_add 85 (o_mul 9 a1))))]) (M1 := M1) (if_pos hc2) ?_
    refine Z_blk k_X11_doOne 3 (pc' := 49) (lo' := [some (vR 0 21 0), some (vI a1), some (vI (o_add 85 (o_mul 9 a1))), some (vI (M1 5 (Int.toNat (o_add 85 (o_mul 9 a1))))), none]) (st' := [vI 6, vI (M1 5 (Int.toNat (o_add 85 (o_mul 9 a1))))]) (M1 := M1) rfl ?_
    refine Z_icmp k_X11_doOne rfl 77 rfl (fun hc => ?_) (fun hc => ?_)
    · replace h := of_pos hc h
      refine Z_blk k_X11_doOne 2 (pc' := 80) (lo' := [some (vR 0 21 0), some (vI a1), some (vI (o_add 85 (o_mul 9 a1))), some (vI (M1 5 (Int.toNat (o_add 85 (o_mul 9 a1))))), none]) (st' := [vI 6, vI (M1 5 (Int.toNat (o_add 85 (o_mul 9 a1))))]) (M1 := M1) rfl ?_
      refine Z_icmp k_X11_doOne rfl 110 rfl (fun hc => ?_) (fun hc => ?_)
      · replace h := of_pos hc h
        refine Z_mask [true, true, true, true, false] (lo0 := [some (vR 0 21 0), some (vI a1), some (vI (o_add 85 (o_mul 9 a1))), some (vI (M1 5 (Int.toNat (o_add 85 (o_mul 9 a1))))), none]) rfl ?_
        exact e_X11_doOne_110 d r_X11_doAll hr_X11_doAll a1 (o_add 85 (o_mul 9 a1)) (M1 5 (Int.toNat (o_add 85 (o_mul 9 a1)))) M1 _ h
      · replace h := of_neg hc h
        refine Z_blk k_X11_doOne 2 (pc' := 85) (lo' := [some (vR 0 21 0), some (vI a1), some (vI (o_add 85 (o_mul 9 a1))), some (vI (M1 5 (Int.toNat (o_add 85 (o_mul 9 a1))))), none]) (st' := [vI (o_add 85 (o_mul 9 a1)), vR 0 21 0]) (M1 := M1) rfl ?_
        obtain ⟨x3, hx3, h⟩ := Option.bind_eq_some_iff.mp h
        refine Z_callV8 k_X11_doOne k_X11_isSo rfl rfl (l_11_484) (ci := 11) rfl [vI (o_add 85 (o_mul 9 a1))] [] rfl rfl (Nat.le_of_ble_eq_true rfl) (Nat.le_of_ble_eq_true rfl) (e_X11_isSo (d + 1) (o_add 85 (o_mul 9 a1)) M1 _ _ hx3) ?_
        refine Z_if k_X11_doOne rfl 110 rfl (fun hc => ?_) (fun hc => ?_)
        · replace h := of_pos hc h
          refine Z_mask [true, true, true, true, false] (lo0 := [some (vR 0 21 0), some (vI a1), some (vI (o_add 85 (o_mul 9 a1))), some (vI (M1 5 (Int.toNat (o_add 85 (o_mul 9 a1))))), none]) rfl ?_
          exact e_X11_doOne_110 d r_X11_doAll hr_X11_doAll a1 (o_add 85 (o_mul 9 a1)) (M1 5 (Int.toNat (o_add 85 (o_mul 9 a1)))) x3.2 _ h
        · replace h := of_neg hc h
          refine Z_blk k_X11_doOne 9 (pc' := 103) (lo' := [some (vR 0 21 0), some (vI a1), some (vI (o_add 85 (o_mul 9 a1))), some (vI (M1 5 (Int.toNat (o_add 85 (o_mul 9 a1))))), none]) (st' := [vI (o_add (o_add 85 (o_mul 9 a1)) 8), vR 5 0 1775, vI (o_add a1 1), vR 0 21 0]) (M1 := x3.2) rfl ?_
          obtain ⟨hc4, h⟩ := of_grd h
          refine Z_one k_X11_doOne rfl (pc' := 104) (lo' := [some (vR 0 21 0), some (vI a1), some (vI (o_add 85 (o_mul 9 a1))), some (vI (M1 5 (Int.toNat (o_add 85 (o_mul 9 a1))))), none]) (st' := [vI (x3.2 5 (Int.toNat (o_add (o_add 85 (o_mul 9 a1)) 8))), vI (o_add a1 1), vR 0 21 0]) (M1 := x3.2) (if_pos hc4) ?_
          obtain ⟨x5, hx5, h⟩ := Option.bind_eq_some_iff.mp h
          refine Z_callV8 k_X11_doOne k_X11_doAll rfl rfl (l_11_487) (ci := 11) rfl [vI (o_add a1 1), vI (x3.2 5 (Int.toNat (o_add (o_add 85 (o_mul 9 a1)) 8)))] [] rfl rfl (Nat.le_of_ble_eq_true rfl) (Nat.le_of_ble_eq_true rfl) (hr_X11_doAll (o_add a1 1) (x3.2 5 (Int.toNat (o_add (o_add 85 (o_mul 9 a1)) 8))) x3.2 _ hx5) ?_
          refine Z_blk k_X11_doOne 1 (pc' := 175) (lo' := [some (vR 0 21 0), some (vI a1), some (vI (o_add 85 (o_mul 9 a1))), some (vI (M1 5 (Int.toNat (o_add 85 (o_mul 9 a1))))), none]) (st' := []) (M1 := x5) rfl ?_
          cases h
          exact Z_ret ⟨rfl, _, rfl⟩ rfl
    · replace h := of_neg hc h
      refine Z_blk k_X11_doOne 5 (pc' := 59) (lo' := [some (vR 0 21 0), some (vI a1), some (vI (o_add 85 (o_mul 9 a1))), some (vI (M1 5 (Int.toNat (o_add 85 (o_mul 9 a1))))), none]) (st' := [vI (o_add 85 (o_mul 9 a1)), vR 0 21 0, vI (M1 0 38), vR 0 21 0]) (M1 := M1) rfl ?_
      obtain ⟨x6, hx6, h⟩ := Option.bind_eq_some_iff.mp h
      refine Z_callV8 k_X11_doOne k_X11_does rfl rfl (l_11_481) (ci := 11) rfl [vI (o_add 85 (o_mul 9 a1))] [vI (M1 0 38), vR 0 21 0] rfl rfl (Nat.le_of_ble_eq_true rfl) (Nat.le_of_ble_eq_true rfl) (e_X11_does (d + 0) (o_add 85 (o_mul 9 a1)) M1 _ _ hx6) ?_
      refine Z_if k_X11_doOne rfl 69 rfl (fun hc => ?_) (fun hc => ?_)
      · replace h := of_pos hc h
        obtain ⟨M7, eM7, h⟩ := of_zlet h
        refine Z_blk k_X11_doOne 3 (pc' := 74) (lo' := [some (vR 0 21 0), some (vI a1), some (vI (o_add 85 (o_mul 9 a1))), some (vI (M1 5 (Int.toNat (o_add 85 (o_mul 9 a1))))), none]) (st' := []) (M1 := M7) (by rw [eM7]; rfl) ?_
        refine Z_blk k_X11_doOne 1 (pc' := 175) (lo' := [some (vR 0 21 0), some (vI a1), some (vI (o_add 85 (o_mul 9 a1))), some (vI (M1 5 (Int.toNat (o_add 85 (o_mul 9 a1))))), none]) (st' := []) (M1 := M7) rfl ?_
        cases h
        exact Z_ret ⟨rfl, _, rfl⟩ rfl
      · replace h := of_neg hc h
        obtain ⟨M8, eM8, h⟩ := of_zlet h
        refine Z_blk k_X11_doOne 4 (pc' := 74) (lo' := [some (vR 0 21 0), some (vI a1), some (vI (o_add 85 (o_mul 9 a1))), some (vI (M1 5 (Int.toNat (o_add 85 (o_mul 9 a1))))), none]) (st' := []) (M1 := M8) (by rw [eM8]; rfl) ?_
        refine Z_blk k_X11_doOne 1 (pc' := 175) (lo' := [some (vR 0 21 0), some (vI a1), some (vI (o_add 85 (o_mul 9 a1))), some (vI (M1 5 (Int.toNat (o_add 85 (o_mul 9 a1))))), none]) (st' := []) (M1 := M8) rfl ?_
        cases h
        exact Z_ret ⟨rfl, _, rfl⟩ rfl
  · replace h := of_neg hc h
    obtain ⟨M9, eM9, h⟩ := of_zlet h
    refine Z_blk k_X11_doOne 3 (pc' := 15) (lo' := [some (vR 0 21 0), some (vI a1), none, none, none]) (st' := []) (M1 := M9) (by rw [eM9]; rfl) ?_
    obtain ⟨M10, eM10, h⟩ := of_zlet h
    refine Z_blk k_X11_doOne 3 (pc' := 20) (lo' := [some (vR 0 21 0), some (vI a1), none, none, none]) (st' := []) (M1 := M10) (by rw [eM10]; rfl) ?_
    cases h
    exact Z_ret ⟨rfl, _, rfl⟩ rfl
def fc_X11_doAll : Nat → Int → Int → AM → Option (AM)
  | 0, _, _, _ => none
  | n + 1, a1, a2, M => fo_X11_doAll (fo_X11_doOne (fc_X11_doAll n)) a1 a2 M
theorem ec_X11_doAll {Y : List (Nat × Nat)} (d : Nat) : ∀ (n : Nat) (a1 : Int) (a2 : Int) (M : AM) (N : AM), fc_X11_doAll n a1 a2 M = some N → Ev Y (d + 2 * n + 5) m_X11_doAll 0 [some (vR 0 21 0), some (vI a1), some (vI a2), none] [] M none N := by
  intro n
  induction n with
  | zero => intro a1 a2 M N h; cases h
  | succ n ih =>
    intro a1 a2 M N h
    simp only [fc_X11_doAll] at h
    exact Ev_cast (by omega) (eo_X11_doAll (d + 2 * n + 1) (fo_X11_doOne (fc_X11_doAll n)) (fun a1 M N h => Ev_cast (by omega) (eo_X11_doOne (d + 2 * n) (fc_X11_doAll n) ih a1 M _ h)) a1 a2 M _ h)
def f_X11_doAll (a1 : Int) (a2 : Int) (M : AM) : Option (AM) := fc_X11_doAll 6 a1 a2 M
theorem e_X11_doAll {Y : List (Nat × Nat)} (d : Nat) (a1 : Int) (a2 : Int) (M : AM) (N : AM) (h : f_X11_doAll a1 a2 M = some N) : Ev Y (d + 17) m_X11_doAll 0 [some (vR 0 21 0), some (vI a1), some (vI a2), none] [] M none N := Ev_cast (by omega) (ec_X11_doAll d 6 a1 a2 M _ h)
def f_X11_doOne (a1 : Int) (M : AM) : Option (AM) := fo_X11_doOne (fc_X11_doAll 6) a1 M
theorem e_X11_doOne {Y : List (Nat × Nat)} (d : Nat) (a1 : Int) (M : AM) (N : AM) (h : f_X11_doOne a1 M = some N) : Ev Y (d + 18) m_X11_doOne 0 [some (vR 0 21 0), some (vI a1), none, none, none] [] M none N := Ev_cast (by omega) (eo_X11_doOne (d + 12) (fc_X11_doAll 6) (fun a1 a2 M N h => Ev_cast (by omega) (ec_X11_doAll d 6 a1 a2 M _ h)) a1 M _ h)
def f_X11_runsYears (a1 : Int) (M : AM) : Option (AM) := zlet (am_upd M 0 36 a1) fun M1 => zlet (am_upd M1 0 37 0) fun M2 => zlet (am_upd M2 0 38 0) fun M3 => zlet (am_upd M3 0 39 0) fun M4 => zlet (am_upd M4 0 40 0) fun M5 => zlet (am_upd M5 0 41 0) fun M6 => zlet (am_upd M6 0 42 0) fun M7 => zlet (am_upd M7 0 35 0) fun M8 => (f_X11_doAll 0 (M8 5 (Int.toNat 84)) M8).bind fun x9 => some x9
theorem e_X11_runsYears {Y : List (Nat × Nat)} (d : Nat) (a1 : Int) (M : AM) (N : AM) (h : f_X11_runsYears a1 M = some N) : Ev Y (d + 18) m_X11_runsYears 0 [some (vR 0 21 0), some (vI a1)] [] M none N := by
  unfold f_X11_runsYears at h
  obtain ⟨M1, eM1, h⟩ := of_zlet h
  refine Z_blk k_X11_runsYears 3 (pc' := 5) (lo' := [some (vR 0 21 0), some (vI a1)]) (st' := []) (M1 := M1) (by rw [eM1]; rfl) ?_
  obtain ⟨M2, eM2, h⟩ := of_zlet h
  refine Z_blk k_X11_runsYears 3 (pc' := 10) (lo' := [some (vR 0 21 0), some (vI a1)]) (st' := []) (M1 := M2) (by rw [eM2]; rfl) ?_
  obtain ⟨M3, eM3, h⟩ := of_zlet h
  refine Z_blk k_X11_runsYears 3 (pc' := 15) (lo' := [some (vR 0 21 0), some (vI a1)]) (st' := []) (M1 := M3) (by rw [eM3]; rfl) ?_
  obtain ⟨M4, eM4, h⟩ := of_zlet h
  refine Z_blk k_X11_runsYears 3 (pc' := 20) (lo' := [some (vR 0 21 0), some (vI a1)]) (st' := []) (M1 := M4) (by rw [eM4]; rfl) ?_
  obtain ⟨M5, eM5, h⟩ := of_zlet h
  refine Z_blk k_X11_runsYears 3 (pc' := 25) (lo' := [some (vR 0 21 0), some (vI a1)]) (st' := []) (M1 := M5) (by rw [eM5]; rfl) ?_
  obtain ⟨M6, eM6, h⟩ := of_zlet h
  refine Z_blk k_X11_runsYears 3 (pc' := 30) (lo' := [some (vR 0 21 0), some (vI a1)]) (st' := []) (M1 := M6) (by rw [eM6]; rfl) ?_
  obtain ⟨M7, eM7, h⟩ := of_zlet h
  refine Z_blk k_X11_runsYears 3 (pc' := 35) (lo' := [some (vR 0 21 0), some (vI a1)]) (st' := []) (M1 := M7) (by rw [eM7]; rfl) ?_
  obtain ⟨M8, eM8, h⟩ := of_zlet h
  refine Z_blk k_X11_runsYears 3 (pc' := 40) (lo' := [some (vR 0 21 0), some (vI a1)]) (st' := []) (M1 := M8) (by rw [eM8]; rfl) ?_
  refine Z_blk k_X11_runsYears 5 (pc' := 48) (lo' := [some (vR 0 21 0), some (vI a1)]) (st' := [vI 84, vR 5 0 1775, vI 0, vR 0 21 0]) (M1 := M8) rfl ?_
  refine Z_one k_X11_runsYears rfl (pc' := 49) (lo' := [some (vR 0 21 0), some (vI a1)]) (st' := [vI (M8 5 (Int.toNat 84)), vI 0, vR 0 21 0]) (M1 := M8) (rfl) ?_
  obtain ⟨x9, hx9, h⟩ := Option.bind_eq_some_iff.mp h
  refine Z_callV8 k_X11_runsYears k_X11_doAll rfl rfl (l_11_487) (ci := 11) rfl [vI 0, vI (M8 5 (Int.toNat 84))] [] rfl rfl (Nat.le_of_ble_eq_true rfl) (Nat.le_of_ble_eq_true rfl) (e_X11_doAll (d + 0) 0 (M8 5 (Int.toNat 84)) M8 _ hx9) ?_
  cases h
  exact Z_ret ⟨rfl, _, rfl⟩ rfl
theorem l_11_495 : zhas 8226 (Jvm.Cond.methodLink "BellPullHouseModel" 495 yX11_runsYears) = true := by decide +kernel
def f_X11_live (a1 : Int) (M : AM) : Option (Int × AM) := zlet (am_upd M 0 1 0) fun M1 => zlet (am_upd M1 0 0 0) fun M2 => (f_X11_isIn a1 0 9999 M2).bind fun x3 => if ¬ x3.1 = 0 then (if ¬ x3.2 5 (Int.toNat 83) = 0 then ((f_X11_runsYears a1 x3.2).bind fun x4 => zlet (am_upd x4 14 (Int.toNat 0) (x4 0 38)) fun M5 => zlet (am_upd M5 14 (Int.toNat 1) (M5 0 39)) fun M6 => zlet (am_upd M6 14 (Int.toNat 2) (M6 0 40)) fun M7 => zlet (am_upd M7 14 (Int.toNat 3) (M7 0 41)) fun M8 => zlet (am_upd M8 14 (Int.toNat 4) (M8 0 42)) fun M9 => zlet (am_upd M9 0 34 1) fun M10 => some (M10 0 37, M10)) else ((f_X11_refuse 8 x3.2).bind fun x11 => some (x11.1, x11.2))) else ((f_X11_refuse 5 x3.2).bind fun x12 => some (x12.1, x12.2))
theorem e_X11_live {Y : List (Nat × Nat)} (d : Nat) (a1 : Int) (M : AM) (x : Int) (N : AM) (h : f_X11_live a1 M = some (x, N)) : Ev Y (d + 19) m_X11_live 0 [some (vR 0 21 0), some (vI a1)] [] M (some (vI x)) N := by
  unfold f_X11_live at h
  obtain ⟨M1, eM1, h⟩ := of_zlet h
  refine Z_blk k_X11_live 3 (pc' := 5) (lo' := [some (vR 0 21 0), some (vI a1)]) (st' := []) (M1 := M1) (by rw [eM1]; rfl) ?_
  obtain ⟨M2, eM2, h⟩ := of_zlet h
  refine Z_blk k_X11_live 3 (pc' := 10) (lo' := [some (vR 0 21 0), some (vI a1)]) (st' := []) (M1 := M2) (by rw [eM2]; rfl) ?_
  refine Z_blk k_X11_live 4 (pc' := 16) (lo' := [some (vR 0 21 0), some (vI a1)]) (st' := [vL 9999, vL 0, vL a1]) (M1 := M2) rfl ?_
  obtain ⟨x3, hx3, h⟩ := Option.bind_eq_some_iff.mp h
  refine Z_callS8 k_X11_live k_X11_isIn rfl rfl (l_11_104) [vL a1, vL 0, vL 9999] [] rfl rfl (Nat.le_of_ble_eq_true rfl) (Nat.le_of_ble_eq_true rfl) (e_X11_isIn (d + 18) a1 0 9999 M2 _ _ hx3) ?_
  refine Z_if k_X11_live rfl 28 rfl (fun hc => ?_) (fun hc => ?_)
  · replace h := of_pos hc h
    refine Z_blk k_X11_live 3 (pc' := 34) (lo' := [some (vR 0 21 0), some (vI a1)]) (st' := [vI 83, vR 5 0 1775]) (M1 := x3.2) rfl ?_
    refine Z_one k_X11_live rfl (pc' := 35) (lo' := [some (vR 0 21 0), some (vI a1)]) (st' := [vI (x3.2 5 (Int.toNat 83))]) (M1 := x3.2) (rfl) ?_
    refine Z_if k_X11_live rfl 45 rfl (fun hc => ?_) (fun hc => ?_)
    · replace h := of_pos hc h
      refine Z_blk k_X11_live 2 (pc' := 47) (lo' := [some (vR 0 21 0), some (vI a1)]) (st' := [vI a1, vR 0 21 0]) (M1 := x3.2) rfl ?_
      obtain ⟨x4, hx4, h⟩ := Option.bind_eq_some_iff.mp h
      refine Z_callV8 k_X11_live k_X11_runsYears rfl rfl (l_11_495) (ci := 11) rfl [vI a1] [] rfl rfl (Nat.le_of_ble_eq_true rfl) (Nat.le_of_ble_eq_true rfl) (e_X11_runsYears (d + 0) a1 x3.2 _ hx4) ?_
      refine Z_blk k_X11_live 5 (pc' := 59) (lo' := [some (vR 0 21 0), some (vI a1)]) (st' := [vI (x4 0 38), vI 0, vR 14 0 5]) (M1 := x4) rfl ?_
      obtain ⟨M5, eM5, h⟩ := of_zlet h
      refine Z_one k_X11_live rfl (pc' := 60) (lo' := [some (vR 0 21 0), some (vI a1)]) (st' := []) (M1 := M5) (by rw [eM5]; exact rfl) ?_
      refine Z_blk k_X11_live 5 (pc' := 69) (lo' := [some (vR 0 21 0), some (vI a1)]) (st' := [vI (M5 0 39), vI 1, vR 14 0 5]) (M1 := M5) rfl ?_
      obtain ⟨M6, eM6, h⟩ := of_zlet h
      refine Z_one k_X11_live rfl (pc' := 70) (lo' := [some (vR 0 21 0), some (vI a1)]) (st' := []) (M1 := M6) (by rw [eM6]; exact rfl) ?_
      refine Z_blk k_X11_live 5 (pc' := 79) (lo' := [some (vR 0 21 0), some (vI a1)]) (st' := [vI (M6 0 40), vI 2, vR 14 0 5]) (M1 := M6) rfl ?_
      obtain ⟨M7, eM7, h⟩ := of_zlet h
      refine Z_one k_X11_live rfl (pc' := 80) (lo' := [some (vR 0 21 0), some (vI a1)]) (st' := []) (M1 := M7) (by rw [eM7]; exact rfl) ?_
      refine Z_blk k_X11_live 5 (pc' := 89) (lo' := [some (vR 0 21 0), some (vI a1)]) (st' := [vI (M7 0 41), vI 3, vR 14 0 5]) (M1 := M7) rfl ?_
      obtain ⟨M8, eM8, h⟩ := of_zlet h
      refine Z_one k_X11_live rfl (pc' := 90) (lo' := [some (vR 0 21 0), some (vI a1)]) (st' := []) (M1 := M8) (by rw [eM8]; exact rfl) ?_
      refine Z_blk k_X11_live 5 (pc' := 99) (lo' := [some (vR 0 21 0), some (vI a1)]) (st' := [vI (M8 0 42), vI 4, vR 14 0 5]) (M1 := M8) rfl ?_
      obtain ⟨M9, eM9, h⟩ := of_zlet h
      refine Z_one k_X11_live rfl (pc' := 100) (lo' := [some (vR 0 21 0), some (vI a1)]) (st' := []) (M1 := M9) (by rw [eM9]; exact rfl) ?_
      obtain ⟨M10, eM10, h⟩ := of_zlet h
      refine Z_blk k_X11_live 3 (pc' := 105) (lo' := [some (vR 0 21 0), some (vI a1)]) (st' := []) (M1 := M10) (by rw [eM10]; rfl) ?_
      refine Z_blk k_X11_live 2 (pc' := 109) (lo' := [some (vR 0 21 0), some (vI a1)]) (st' := [vI (M10 0 37)]) (M1 := M10) rfl ?_
      cases h
      exact Z_ret ⟨Or.inl rfl, _, rfl⟩ rfl
    · replace h := of_neg hc h
      refine Z_blk k_X11_live 2 (pc' := 41) (lo' := [some (vR 0 21 0), some (vI a1)]) (st' := [vI 8, vR 0 21 0]) (M1 := x3.2) rfl ?_
      obtain ⟨x11, hx11, h⟩ := Option.bind_eq_some_iff.mp h
      refine Z_callV8 k_X11_live k_X11_refuse rfl rfl (l_11_326) (ci := 11) rfl [vI 8] [] rfl rfl (Nat.le_of_ble_eq_true rfl) (Nat.le_of_ble_eq_true rfl) (e_X11_refuse (d + 18) 8 x3.2 _ _ hx11) ?_
      cases h
      exact Z_ret ⟨Or.inl rfl, _, rfl⟩ rfl
  · replace h := of_neg hc h
    refine Z_blk k_X11_live 2 (pc' := 24) (lo' := [some (vR 0 21 0), some (vI a1)]) (st' := [vI 5, vR 0 21 0]) (M1 := x3.2) rfl ?_
    obtain ⟨x12, hx12, h⟩ := Option.bind_eq_some_iff.mp h
    refine Z_callV8 k_X11_live k_X11_refuse rfl rfl (l_11_326) (ci := 11) rfl [vI 5] [] rfl rfl (Nat.le_of_ble_eq_true rfl) (Nat.le_of_ble_eq_true rfl) (e_X11_refuse (d + 18) 5 x3.2 _ _ hx12) ?_
    cases h
    exact Z_ret ⟨Or.inl rfl, _, rfl⟩ rfl
def f_X11_lived (a1 : Int) (M : AM) : Option (Int × AM) := zlet (am_upd M 0 1 0) fun M1 => zlet (am_upd M1 0 0 0) fun M2 => (f_X11_isIn a1 0 4 M2).bind fun x3 => if ¬ x3.1 = 0 then (if x3.2 0 34 = 0 then ((f_X11_refuse 8 x3.2).bind fun x4 => some (x4.1, x4.2)) else (if 0 ≤ a1 ∧ a1 < 5 then some (x3.2 14 (Int.toNat a1), x3.2) else none)) else ((f_X11_refuse 5 x3.2).bind fun x6 => some (x6.1, x6.2))
theorem e_X11_lived {Y : List (Nat × Nat)} (d : Nat) (a1 : Int) (M : AM) (x : Int) (N : AM) (h : f_X11_lived a1 M = some (x, N)) : Ev Y (d + 1) m_X11_lived 0 [some (vR 0 21 0), some (vI a1)] [] M (some (vI x)) N := by
  unfold f_X11_lived at h
  obtain ⟨M1, eM1, h⟩ := of_zlet h
  refine Z_blk k_X11_lived 3 (pc' := 5) (lo' := [some (vR 0 21 0), some (vI a1)]) (st' := []) (M1 := M1) (by rw [eM1]; rfl) ?_
  obtain ⟨M2, eM2, h⟩ := of_zlet h
  refine Z_blk k_X11_lived 3 (pc' := 10) (lo' := [some (vR 0 21 0), some (vI a1)]) (st' := []) (M1 := M2) (by rw [eM2]; rfl) ?_
  refine Z_blk k_X11_lived 4 (pc' := 16) (lo' := [some (vR 0 21 0), some (vI a1)]) (st' := [vL 4, vL 0, vL a1]) (M1 := M2) rfl ?_
  obtain ⟨x3, hx3, h⟩ := Option.bind_eq_some_iff.mp h
  refine Z_callS8 k_X11_lived k_X11_isIn rfl rfl (l_11_104) [vL a1, vL 0, vL 4] [] rfl rfl (Nat.le_of_ble_eq_true rfl) (Nat.le_of_ble_eq_true rfl) (e_X11_isIn (d + 0) a1 0 4 M2 _ _ hx3) ?_
  refine Z_if k_X11_lived rfl 28 rfl (fun hc => ?_) (fun hc => ?_)
  · replace h := of_pos hc h
    refine Z_blk k_X11_lived 2 (pc' := 32) (lo' := [some (vR 0 21 0), some (vI a1)]) (st' := [vI (x3.2 0 34)]) (M1 := x3.2) rfl ?_
    refine Z_if k_X11_lived rfl 44 rfl (fun hc => ?_) (fun hc => ?_)
    · replace h := of_pos hc h
      refine Z_blk k_X11_lived 2 (pc' := 47) (lo' := [some (vR 0 21 0), some (vI a1)]) (st' := [vI 8, vR 0 21 0]) (M1 := x3.2) rfl ?_
      obtain ⟨x4, hx4, h⟩ := Option.bind_eq_some_iff.mp h
      refine Z_callV8 k_X11_lived k_X11_refuse rfl rfl (l_11_326) (ci := 11) rfl [vI 8] [] rfl rfl (Nat.le_of_ble_eq_true rfl) (Nat.le_of_ble_eq_true rfl) (e_X11_refuse (d + 0) 8 x3.2 _ _ hx4) ?_
      cases h
      exact Z_ret ⟨Or.inl rfl, _, rfl⟩ rfl
    · replace h := of_neg hc h
      refine Z_blk k_X11_lived 3 (pc' := 40) (lo' := [some (vR 0 21 0), some (vI a1)]) (st' := [vI a1, vR 14 0 5]) (M1 := x3.2) rfl ?_
      obtain ⟨hc5, h⟩ := of_grd h
      refine Z_one k_X11_lived rfl (pc' := 41) (lo' := [some (vR 0 21 0), some (vI a1)]) (st' := [vI (x3.2 14 (Int.toNat a1))]) (M1 := x3.2) (if_pos hc5) ?_
      refine Z_blk k_X11_lived 1 (pc' := 50) (lo' := [some (vR 0 21 0), some (vI a1)]) (st' := [vI (x3.2 14 (Int.toNat a1))]) (M1 := x3.2) rfl ?_
      cases h
      exact Z_ret ⟨Or.inl rfl, _, rfl⟩ rfl
  · replace h := of_neg hc h
    refine Z_blk k_X11_lived 2 (pc' := 24) (lo' := [some (vR 0 21 0), some (vI a1)]) (st' := [vI 5, vR 0 21 0]) (M1 := x3.2) rfl ?_
    obtain ⟨x6, hx6, h⟩ := Option.bind_eq_some_iff.mp h
    refine Z_callV8 k_X11_lived k_X11_refuse rfl rfl (l_11_326) (ci := 11) rfl [vI 5] [] rfl rfl (Nat.le_of_ble_eq_true rfl) (Nat.le_of_ble_eq_true rfl) (e_X11_refuse (d + 0) 5 x3.2 _ _ hx6) ?_
    cases h
    exact Z_ret ⟨Or.inl rfl, _, rfl⟩ rfl
def f_X11_mean_37 (M : AM) : Option (Int × AM) := (f_X11_no 5 M).bind fun x1 => if x1.1 = 0 ∨ x1.1 = 1 then some (x1.1, x1.2) else none
theorem e_X11_mean_37 {Y : List (Nat × Nat)} (d : Nat) (M : AM) (x : Int) (N : AM) (h : f_X11_mean_37 M = some (x, N)) : Ev Y (d + 19) m_X11_mean 37 [some (vR 0 21 0), none, none, none, none, none, none] [] M (some (vI x)) N := by
  unfold f_X11_mean_37 at h
  refine Z_blk k_X11_mean 2 (pc' := 39) (lo' := [some (vR 0 21 0), none, none, none, none, none, none]) (st' := [vI 5, vR 0 21 0]) (M1 := M) rfl ?_
  obtain ⟨x1, hx1, h⟩ := Option.bind_eq_some_iff.mp h
  refine Z_callV8 k_X11_mean k_X11_no rfl rfl (l_11_84) (ci := 11) rfl [vI 5] [] rfl rfl (Nat.le_of_ble_eq_true rfl) (Nat.le_of_ble_eq_true rfl) (e_X11_no (d + 18) 5 M _ _ hx1) ?_
  obtain ⟨hc2, h⟩ := of_grd h
  cases h
  exact Z_ret ⟨Or.inr ⟨rfl, hc2⟩, _, rfl⟩ rfl
def f_X11_mean_116 (k_91 : Int → Int → Int → Int → AM → Option (Int × AM)) : Nat → Int → Int → Int → Int → Int → AM → Option (Int × AM)
  | 0, _, _, _, _, _, _ => none
  | n + 1, a1, a2, a3, a5, a6, M => if 83 ≤ a6 then k_91 a1 a2 a3 (o_add a5 1) M else (if 0 ≤ a6 ∧ a6 < 83 then (if 0 ≤ a6 ∧ a6 < 1775 then (zlet (am_upd M 5 (Int.toNat a6) (M 7 (Int.toNat a6))) fun M3 => f_X11_mean_116 k_91 n a1 a2 a3 a5 (o_add a6 1) M3) else none) else none)
theorem e_X11_mean_116 {Y : List (Nat × Nat)} (d : Nat) (k_91 : Int → Int → Int → Int → AM → Option (Int × AM)) (hk_91 : ∀ (a1 : Int) (a2 : Int) (a3 : Int) (a5 : Int) (M : AM) (x : Int) (N : AM), k_91 a1 a2 a3 a5 M = some (x, N) → Ev Y (d + 19) m_X11_mean 91 [some (vR 0 21 0), some (vI a1), some (vI a2), some (vL a3), none, some (vI a5), none] [] M (some (vI x)) N) : ∀ (n : Nat) (a1 : Int) (a2 : Int) (a3 : Int) (a5 : Int) (a6 : Int) (M : AM) (x : Int) (N : AM), f_X11_mean_116 k_91 n a1 a2 a3 a5 a6 M = some (x, N) → Ev Y (d + 19) m_X11_mean 116 [some (vR 0 21 0), some (vI a1), some (vI a2), some (vL a3), none, some (vI a5), some (vI a6)] [] M (some (vI x)) N := by
  intro n
  induction n with
  | zero => intro a1 a2 a3 a5 a6 M x N h; cases h
  | succ n ih =>
    intro a1 a2 a3 a5 a6 M x N h
    simp only [f_X11_mean_116] at h
    refine Z_blk k_X11_mean 2 (pc' := 120) (lo' := [some (vR 0 21 0), some (vI a1), some (vI a2), some (vL a3), none, some (vI a5), some (vI a6)]) (st' := [vI 83, vI a6]) (M1 := M) rfl ?_
    refine Z_icmp k_X11_mean rfl 143 rfl (fun hc => ?_) (fun hc => ?_)
    · replace h := of_pos hc h
      refine Z_blk k_X11_mean 2 (pc' := 91) (lo' := [some (vR 0 21 0), some (vI a1), some (vI a2), some (vL a3), none, some (vI (o_add a5 1)), some (vI a6)]) (st' := []) (M1 := M) rfl ?_
      refine Z_mask [true, true, true, true, false, true, false] (lo0 := [some (vR 0 21 0), some (vI a1), some (vI a2), some (vL a3), none, some (vI (o_add a5 1)), none]) rfl ?_
      exact hk_91 a1 a2 a3 (o_add a5 1) M _ _ h
    · replace h := of_neg hc h
      refine Z_blk k_X11_mean 6 (pc' := 135) (lo' := [some (vR 0 21 0), some (vI a1), some (vI a2), some (vL a3), none, some (vI a5), some (vI a6)]) (st' := [vI a6, vR 7 0 83, vI a6, vR 5 0 1775]) (M1 := M) rfl ?_
      obtain ⟨hc1, h⟩ := of_grd h
      refine Z_one k_X11_mean rfl (pc' := 136) (lo' := [some (vR 0 21 0), some (vI a1), some (vI a2), some (vL a3), none, some (vI a5), some (vI a6)]) (st' := [vI (M 7 (Int.toNat a6)), vI a6, vR 5 0 1775]) (M1 := M) (if_pos hc1) ?_
      obtain ⟨hc2, h⟩ := of_grd h
      obtain ⟨M3, eM3, h⟩ := of_zlet h
      refine Z_one k_X11_mean rfl (pc' := 137) (lo' := [some (vR 0 21 0), some (vI a1), some (vI a2), some (vL a3), none, some (vI a5), some (vI a6)]) (st' := []) (M1 := M3) (by rw [eM3]; exact if_pos hc2) ?_
      refine Z_blk k_X11_mean 2 (pc' := 116) (lo' := [some (vR 0 21 0), some (vI a1), some (vI a2), some (vL a3), none, some (vI a5), some (vI (o_add a6 1))]) (st' := []) (M1 := M3) rfl ?_
      refine Z_mask [true, true, true, true, false, true, true] (lo0 := [some (vR 0 21 0), some (vI a1), some (vI a2), some (vL a3), none, some (vI a5), some (vI (o_add a6 1))]) rfl ?_
      exact ih a1 a2 a3 a5 (o_add a6 1) M3 _ _ h
def f_X11_mean_91 : Nat → Int → Int → Int → Int → AM → Option (Int × AM)
  | 0, _, _, _, _, _ => none
  | n + 1, a1, a2, a3, a5, M => if a2 ≤ a5 then ((f_X11_fraction a3 a2 M).bind fun x1 => if x1.1 = 0 ∨ x1.1 = 1 then some (x1.1, x1.2) else none) else ((f_X11_runsYears (o_add a1 a5) M).bind fun x3 => (f_X11_allLove x3).bind fun x4 => f_X11_mean_116 (f_X11_mean_91 n) zB a1 a2 (l_add a3 x4.1) a5 0 x4.2)
theorem e_X11_mean_91 {Y : List (Nat × Nat)} (d : Nat) : ∀ (n : Nat) (a1 : Int) (a2 : Int) (a3 : Int) (a5 : Int) (M : AM) (x : Int) (N : AM), f_X11_mean_91 n a1 a2 a3 a5 M = some (x, N) → Ev Y (d + 19) m_X11_mean 91 [some (vR 0 21 0), some (vI a1), some (vI a2), some (vL a3), none, some (vI a5), none] [] M (some (vI x)) N := by
  intro n
  induction n with
  | zero => intro a1 a2 a3 a5 M x N h; cases h
  | succ n ih =>
    intro a1 a2 a3 a5 M x N h
    simp only [f_X11_mean_91] at h
    refine Z_blk k_X11_mean 2 (pc' := 94) (lo' := [some (vR 0 21 0), some (vI a1), some (vI a2), some (vL a3), none, some (vI a5), none]) (st' := [vI a2, vI a5]) (M1 := M) rfl ?_
    refine Z_icmp k_X11_mean rfl 149 rfl (fun hc => ?_) (fun hc => ?_)
    · replace h := of_pos hc h
      refine Z_blk k_X11_mean 4 (pc' := 153) (lo' := [some (vR 0 21 0), some (vI a1), some (vI a2), some (vL a3), none, some (vI a5), none]) (st' := [vL a2, vL a3, vR 0 21 0]) (M1 := M) rfl ?_
      obtain ⟨x1, hx1, h⟩ := Option.bind_eq_some_iff.mp h
      refine Z_callV8 k_X11_mean k_X11_fraction rfl rfl (l_11_436) (ci := 11) rfl [vL a3, vL a2] [] rfl rfl (Nat.le_of_ble_eq_true rfl) (Nat.le_of_ble_eq_true rfl) (e_X11_fraction (d + 18) a3 a2 M _ _ hx1) ?_
      obtain ⟨hc2, h⟩ := of_grd h
      cases h
      exact Z_ret ⟨Or.inr ⟨rfl, hc2⟩, _, rfl⟩ rfl
    · replace h := of_neg hc h
      refine Z_blk k_X11_mean 4 (pc' := 102) (lo' := [some (vR 0 21 0), some (vI a1), some (vI a2), some (vL a3), none, some (vI a5), none]) (st' := [vI (o_add a1 a5), vR 0 21 0]) (M1 := M) rfl ?_
      obtain ⟨x3, hx3, h⟩ := Option.bind_eq_some_iff.mp h
      refine Z_callV8 k_X11_mean k_X11_runsYears rfl rfl (l_11_495) (ci := 11) rfl [vI (o_add a1 a5)] [] rfl rfl (Nat.le_of_ble_eq_true rfl) (Nat.le_of_ble_eq_true rfl) (e_X11_runsYears (d + 0) (o_add a1 a5) M _ hx3) ?_
      refine Z_blk k_X11_mean 2 (pc' := 107) (lo' := [some (vR 0 21 0), some (vI a1), some (vI a2), some (vL a3), none, some (vI a5), none]) (st' := [vR 0 21 0, vL a3]) (M1 := x3) rfl ?_
      obtain ⟨x4, hx4, h⟩ := Option.bind_eq_some_iff.mp h
      refine Z_callV8 k_X11_mean k_X11_allLove rfl rfl (l_11_335) (ci := 11) rfl [] [vL a3] rfl rfl (Nat.le_of_ble_eq_true rfl) (Nat.le_of_ble_eq_true rfl) (e_X11_allLove (d + 18) x3 _ _ hx4) ?_
      refine Z_blk k_X11_mean 5 (pc' := 116) (lo' := [some (vR 0 21 0), some (vI a1), some (vI a2), some (vL (l_add a3 x4.1)), none, some (vI a5), some (vI 0)]) (st' := []) (M1 := x4.2) rfl ?_
      refine Z_mask [true, true, true, true, false, true, true] (lo0 := [some (vR 0 21 0), some (vI a1), some (vI a2), some (vL (l_add a3 x4.1)), none, some (vI a5), some (vI 0)]) rfl ?_
      exact e_X11_mean_116 d (f_X11_mean_91 n) ih zB a1 a2 (l_add a3 x4.1) a5 0 x4.2 _ _ h
def f_X11_mean_62 : Nat → Int → Int → Int → AM → Option (Int × AM)
  | 0, _, _, _, _ => none
  | n + 1, a1, a2, a3, M => if 83 ≤ a3 then f_X11_mean_91 zB a1 a2 0 0 M else (if 0 ≤ a3 ∧ a3 < 1775 then (if 0 ≤ a3 ∧ a3 < 83 then (zlet (am_upd M 7 (Int.toNat a3) (M 5 (Int.toNat a3))) fun M3 => f_X11_mean_62 n a1 a2 (o_add a3 1) M3) else none) else none)
theorem e_X11_mean_62 {Y : List (Nat × Nat)} (d : Nat) : ∀ (n : Nat) (a1 : Int) (a2 : Int) (a3 : Int) (M : AM) (x : Int) (N : AM), f_X11_mean_62 n a1 a2 a3 M = some (x, N) → Ev Y (d + 19) m_X11_mean 62 [some (vR 0 21 0), some (vI a1), some (vI a2), some (vI a3), none, none, none] [] M (some (vI x)) N := by
  intro n
  induction n with
  | zero => intro a1 a2 a3 M x N h; cases h
  | succ n ih =>
    intro a1 a2 a3 M x N h
    simp only [f_X11_mean_62] at h
    refine Z_blk k_X11_mean 2 (pc' := 65) (lo' := [some (vR 0 21 0), some (vI a1), some (vI a2), some (vI a3), none, none, none]) (st' := [vI 83, vI a3]) (M1 := M) rfl ?_
    refine Z_icmp k_X11_mean rfl 86 rfl (fun hc => ?_) (fun hc => ?_)
    · replace h := of_pos hc h
      refine Z_blk k_X11_mean 4 (pc' := 91) (lo' := [some (vR 0 21 0), some (vI a1), some (vI a2), some (vL 0), none, some (vI 0), none]) (st' := []) (M1 := M) rfl ?_
      refine Z_mask [true, true, true, true, false, true, false] (lo0 := [some (vR 0 21 0), some (vI a1), some (vI a2), some (vL 0), none, some (vI 0), none]) rfl ?_
      exact e_X11_mean_91 d zB a1 a2 0 0 M _ _ h
    · replace h := of_neg hc h
      refine Z_blk k_X11_mean 6 (pc' := 78) (lo' := [some (vR 0 21 0), some (vI a1), some (vI a2), some (vI a3), none, none, none]) (st' := [vI a3, vR 5 0 1775, vI a3, vR 7 0 83]) (M1 := M) rfl ?_
      obtain ⟨hc1, h⟩ := of_grd h
      refine Z_one k_X11_mean rfl (pc' := 79) (lo' := [some (vR 0 21 0), some (vI a1), some (vI a2), some (vI a3), none, none, none]) (st' := [vI (M 5 (Int.toNat a3)), vI a3, vR 7 0 83]) (M1 := M) (if_pos hc1) ?_
      obtain ⟨hc2, h⟩ := of_grd h
      obtain ⟨M3, eM3, h⟩ := of_zlet h
      refine Z_one k_X11_mean rfl (pc' := 80) (lo' := [some (vR 0 21 0), some (vI a1), some (vI a2), some (vI a3), none, none, none]) (st' := []) (M1 := M3) (by rw [eM3]; exact if_pos hc2) ?_
      refine Z_blk k_X11_mean 2 (pc' := 62) (lo' := [some (vR 0 21 0), some (vI a1), some (vI a2), some (vI (o_add a3 1)), none, none, none]) (st' := []) (M1 := M3) rfl ?_
      refine Z_mask [true, true, true, true, false, false, false] (lo0 := [some (vR 0 21 0), some (vI a1), some (vI a2), some (vI (o_add a3 1)), none, none, none]) rfl ?_
      exact ih a1 a2 (o_add a3 1) M3 _ _ h
def f_X11_mean (a1 : Int) (a2 : Int) (M : AM) : Option (Int × AM) := zlet (am_upd M 0 1 0) fun M1 => zlet (am_upd M1 0 0 0) fun M2 => (f_X11_isIn a2 1 20 M2).bind fun x3 => if x3.1 = 0 then f_X11_mean_37 x3.2 else ((f_X11_isIn a1 0 (o_sub 10000 a2) x3.2).bind fun x4 => if ¬ x4.1 = 0 then (if ¬ x4.2 5 (Int.toNat 83) = 0 then f_X11_mean_62 zB a1 a2 0 x4.2 else ((f_X11_no 8 x4.2).bind fun x5 => if x5.1 = 0 ∨ x5.1 = 1 then some (x5.1, x5.2) else none)) else f_X11_mean_37 x4.2)
theorem e_X11_mean {Y : List (Nat × Nat)} (d : Nat) (a1 : Int) (a2 : Int) (M : AM) (x : Int) (N : AM) (h : f_X11_mean a1 a2 M = some (x, N)) : Ev Y (d + 19) m_X11_mean 0 [some (vR 0 21 0), some (vI a1), some (vI a2), none, none, none, none] [] M (some (vI x)) N := by
  unfold f_X11_mean at h
  obtain ⟨M1, eM1, h⟩ := of_zlet h
  refine Z_blk k_X11_mean 3 (pc' := 5) (lo' := [some (vR 0 21 0), some (vI a1), some (vI a2), none, none, none, none]) (st' := []) (M1 := M1) (by rw [eM1]; rfl) ?_
  obtain ⟨M2, eM2, h⟩ := of_zlet h
  refine Z_blk k_X11_mean 3 (pc' := 10) (lo' := [some (vR 0 21 0), some (vI a1), some (vI a2), none, none, none, none]) (st' := []) (M1 := M2) (by rw [eM2]; rfl) ?_
  refine Z_blk k_X11_mean 4 (pc' := 16) (lo' := [some (vR 0 21 0), some (vI a1), some (vI a2), none, none, none, none]) (st' := [vL 20, vL 1, vL a2]) (M1 := M2) rfl ?_
  obtain ⟨x3, hx3, h⟩ := Option.bind_eq_some_iff.mp h
  refine Z_callS8 k_X11_mean k_X11_isIn rfl rfl (l_11_104) [vL a2, vL 1, vL 20] [] rfl rfl (Nat.le_of_ble_eq_true rfl) (Nat.le_of_ble_eq_true rfl) (e_X11_isIn (d + 18) a2 1 20 M2 _ _ hx3) ?_
  refine Z_if k_X11_mean rfl 37 rfl (fun hc => ?_) (fun hc => ?_)
  · replace h := of_pos hc h
    refine Z_mask [true, false, false, false, false, false, false] (lo0 := [some (vR 0 21 0), none, none, none, none, none, none]) rfl ?_
    exact e_X11_mean_37 d x3.2 _ _ h
  · replace h := of_neg hc h
    refine Z_blk k_X11_mean 7 (pc' := 31) (lo' := [some (vR 0 21 0), some (vI a1), some (vI a2), none, none, none, none]) (st' := [vL (o_sub 10000 a2), vL 0, vL a1]) (M1 := x3.2) rfl ?_
    obtain ⟨x4, hx4, h⟩ := Option.bind_eq_some_iff.mp h
    refine Z_callS8 k_X11_mean k_X11_isIn rfl rfl (l_11_104) [vL a1, vL 0, vL (o_sub 10000 a2)] [] rfl rfl (Nat.le_of_ble_eq_true rfl) (Nat.le_of_ble_eq_true rfl) (e_X11_isIn (d + 18) a1 0 (o_sub 10000 a2) x3.2 _ _ hx4) ?_
    refine Z_if k_X11_mean rfl 43 rfl (fun hc => ?_) (fun hc => ?_)
    · replace h := of_pos hc h
      refine Z_blk k_X11_mean 3 (pc' := 49) (lo' := [some (vR 0 21 0), some (vI a1), some (vI a2), none, none, none, none]) (st' := [vI 83, vR 5 0 1775]) (M1 := x4.2) rfl ?_
      refine Z_one k_X11_mean rfl (pc' := 50) (lo' := [some (vR 0 21 0), some (vI a1), some (vI a2), none, none, none, none]) (st' := [vI (x4.2 5 (Int.toNat 83))]) (M1 := x4.2) (rfl) ?_
      refine Z_if k_X11_mean rfl 60 rfl (fun hc => ?_) (fun hc => ?_)
      · replace h := of_pos hc h
        refine Z_blk k_X11_mean 2 (pc' := 62) (lo' := [some (vR 0 21 0), some (vI a1), some (vI a2), some (vI 0), none, none, none]) (st' := []) (M1 := x4.2) rfl ?_
        refine Z_mask [true, true, true, true, false, false, false] (lo0 := [some (vR 0 21 0), some (vI a1), some (vI a2), some (vI 0), none, none, none]) rfl ?_
        exact e_X11_mean_62 d zB a1 a2 0 x4.2 _ _ h
      · replace h := of_neg hc h
        refine Z_blk k_X11_mean 2 (pc' := 56) (lo' := [some (vR 0 21 0), some (vI a1), some (vI a2), none, none, none, none]) (st' := [vI 8, vR 0 21 0]) (M1 := x4.2) rfl ?_
        obtain ⟨x5, hx5, h⟩ := Option.bind_eq_some_iff.mp h
        refine Z_callV8 k_X11_mean k_X11_no rfl rfl (l_11_84) (ci := 11) rfl [vI 8] [] rfl rfl (Nat.le_of_ble_eq_true rfl) (Nat.le_of_ble_eq_true rfl) (e_X11_no (d + 18) 8 x4.2 _ _ hx5) ?_
        obtain ⟨hc6, h⟩ := of_grd h
        cases h
        exact Z_ret ⟨Or.inr ⟨rfl, hc6⟩, _, rfl⟩ rfl
    · replace h := of_neg hc h
      refine Z_mask [true, false, false, false, false, false, false] (lo0 := [some (vR 0 21 0), none, none, none, none, none, none]) rfl ?_
      exact e_X11_mean_37 d x4.2 _ _ h
def f_X11_mark (M : AM) : Option (Int × AM) := zlet (am_upd M 0 1 0) fun M1 => zlet (am_upd M1 0 0 0) fun M2 => if ¬ M2 0 24 = 3 then (zlet (am_upd M2 0 24 (o_add (M2 0 24) 1)) fun M3 => (f_X11_copy 0 (M3 0 24) M3).bind fun x4 => some (x4 0 24, x4)) else ((f_X11_refuse 7 M2).bind fun x5 => some (x5.1, x5.2))
theorem e_X11_mark {Y : List (Nat × Nat)} (d : Nat) (M : AM) (x : Int) (N : AM) (h : f_X11_mark M = some (x, N)) : Ev Y (d + 1) m_X11_mark 0 [some (vR 0 21 0)] [] M (some (vI x)) N := by
  unfold f_X11_mark at h
  obtain ⟨M1, eM1, h⟩ := of_zlet h
  refine Z_blk k_X11_mark 3 (pc' := 5) (lo' := [some (vR 0 21 0)]) (st' := []) (M1 := M1) (by rw [eM1]; rfl) ?_
  obtain ⟨M2, eM2, h⟩ := of_zlet h
  refine Z_blk k_X11_mark 3 (pc' := 10) (lo' := [some (vR 0 21 0)]) (st' := []) (M1 := M2) (by rw [eM2]; rfl) ?_
  refine Z_blk k_X11_mark 3 (pc' := 15) (lo' := [some (vR 0 21 0)]) (st' := [vI 3, vI (M2 0 24)]) (M1 := M2) rfl ?_
  refine Z_icmp k_X11_mark rfl 25 rfl (fun hc => ?_) (fun hc => ?_)
  · replace h := of_pos hc h
    obtain ⟨M3, eM3, h⟩ := of_zlet h
    refine Z_blk k_X11_mark 6 (pc' := 35) (lo' := [some (vR 0 21 0)]) (st' := []) (M1 := M3) (by rw [eM3]; rfl) ?_
    refine Z_blk k_X11_mark 4 (pc' := 41) (lo' := [some (vR 0 21 0)]) (st' := [vI (M3 0 24), vI 0, vR 0 21 0]) (M1 := M3) rfl ?_
    obtain ⟨x4, hx4, h⟩ := Option.bind_eq_some_iff.mp h
    refine Z_callV8 k_X11_mark k_X11_copy rfl rfl (l_11_294) (ci := 11) rfl [vI 0, vI (M3 0 24)] [] rfl rfl (Nat.le_of_ble_eq_true rfl) (Nat.le_of_ble_eq_true rfl) (e_X11_copy (d + 0) 0 (M3 0 24) M3 _ hx4) ?_
    refine Z_blk k_X11_mark 2 (pc' := 48) (lo' := [some (vR 0 21 0)]) (st' := [vI (x4 0 24)]) (M1 := x4) rfl ?_
    cases h
    exact Z_ret ⟨Or.inl rfl, _, rfl⟩ rfl
  · replace h := of_neg hc h
    refine Z_blk k_X11_mark 2 (pc' := 21) (lo' := [some (vR 0 21 0)]) (st' := [vI 7, vR 0 21 0]) (M1 := M2) rfl ?_
    obtain ⟨x5, hx5, h⟩ := Option.bind_eq_some_iff.mp h
    refine Z_callV8 k_X11_mark k_X11_refuse rfl rfl (l_11_326) (ci := 11) rfl [vI 7] [] rfl rfl (Nat.le_of_ble_eq_true rfl) (Nat.le_of_ble_eq_true rfl) (e_X11_refuse (d + 0) 7 M2 _ _ hx5) ?_
    cases h
    exact Z_ret ⟨Or.inl rfl, _, rfl⟩ rfl
def f_X11_back (M : AM) : Option (Int × AM) := zlet (am_upd M 0 1 0) fun M1 => zlet (am_upd M1 0 0 0) fun M2 => if ¬ M2 0 24 = 0 then ((f_X11_copy (M2 0 24) 0 M2).bind fun x3 => zlet (am_upd x3 0 24 (o_sub (x3 0 24) 1)) fun M4 => some (M4 0 24, M4)) else ((f_X11_refuse 8 M2).bind fun x5 => some (x5.1, x5.2))
theorem e_X11_back {Y : List (Nat × Nat)} (d : Nat) (M : AM) (x : Int) (N : AM) (h : f_X11_back M = some (x, N)) : Ev Y (d + 1) m_X11_back 0 [some (vR 0 21 0)] [] M (some (vI x)) N := by
  unfold f_X11_back at h
  obtain ⟨M1, eM1, h⟩ := of_zlet h
  refine Z_blk k_X11_back 3 (pc' := 5) (lo' := [some (vR 0 21 0)]) (st' := []) (M1 := M1) (by rw [eM1]; rfl) ?_
  obtain ⟨M2, eM2, h⟩ := of_zlet h
  refine Z_blk k_X11_back 3 (pc' := 10) (lo' := [some (vR 0 21 0)]) (st' := []) (M1 := M2) (by rw [eM2]; rfl) ?_
  refine Z_blk k_X11_back 2 (pc' := 14) (lo' := [some (vR 0 21 0)]) (st' := [vI (M2 0 24)]) (M1 := M2) rfl ?_
  refine Z_if k_X11_back rfl 24 rfl (fun hc => ?_) (fun hc => ?_)
  · replace h := of_pos hc h
    refine Z_blk k_X11_back 4 (pc' := 30) (lo' := [some (vR 0 21 0)]) (st' := [vI 0, vI (M2 0 24), vR 0 21 0]) (M1 := M2) rfl ?_
    obtain ⟨x3, hx3, h⟩ := Option.bind_eq_some_iff.mp h
    refine Z_callV8 k_X11_back k_X11_copy rfl rfl (l_11_294) (ci := 11) rfl [vI (M2 0 24), vI 0] [] rfl rfl (Nat.le_of_ble_eq_true rfl) (Nat.le_of_ble_eq_true rfl) (e_X11_copy (d + 0) (M2 0 24) 0 M2 _ hx3) ?_
    obtain ⟨M4, eM4, h⟩ := of_zlet h
    refine Z_blk k_X11_back 6 (pc' := 43) (lo' := [some (vR 0 21 0)]) (st' := []) (M1 := M4) (by rw [eM4]; rfl) ?_
    refine Z_blk k_X11_back 2 (pc' := 47) (lo' := [some (vR 0 21 0)]) (st' := [vI (M4 0 24)]) (M1 := M4) rfl ?_
    cases h
    exact Z_ret ⟨Or.inl rfl, _, rfl⟩ rfl
  · replace h := of_neg hc h
    refine Z_blk k_X11_back 2 (pc' := 20) (lo' := [some (vR 0 21 0)]) (st' := [vI 8, vR 0 21 0]) (M1 := M2) rfl ?_
    obtain ⟨x5, hx5, h⟩ := Option.bind_eq_some_iff.mp h
    refine Z_callV8 k_X11_back k_X11_refuse rfl rfl (l_11_326) (ci := 11) rfl [vI 8] [] rfl rfl (Nat.le_of_ble_eq_true rfl) (Nat.le_of_ble_eq_true rfl) (e_X11_refuse (d + 0) 8 M2 _ _ hx5) ?_
    cases h
    exact Z_ret ⟨Or.inl rfl, _, rfl⟩ rfl
