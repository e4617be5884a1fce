/-! the cases of the law -/
section LCases
variable {b L : Nat} {xs : Nat → Int32} {i : Nat}
theorem lc_0 (hi : i + 6 ≤ L) (hL : L ≤ 3072) (next : ∀ M, RR M → ∃ M', EvP (lP b L xs) zY 20 m_LAW 1755 (llo (i : Int)) [] M (some (vI 1)) M') : ∀ M, RR M → ∃ M', EvP (lP b L xs) zY 20 m_LAW 264 (llo (i : Int)) [] M (some (vI 1)) M' :=
  L_caseI (gX := m_X10_status) (gM := m_X11_status) (vs := []) k_X10_status k_X11_status (s_status) 264 265 269 13 2228 17 6141 (1483) (by decide +kernel)
    (fun M v M' st h => L_args hi hL [] (by decide +kernel) rfl h) (fun M v M' st h => L_args hi hL [] (by decide +kernel) rfl h)
    (by decide +kernel) (by decide +kernel) rfl rfl rfl rfl rfl rfl (Nat.le_of_ble_eq_true rfl) (Nat.le_of_ble_eq_true rfl)
    (fun M x N h => e_X10_status 19 M x N h) (fun M x N h => e_X11_status 19 M x N h) next
theorem lc_1 (hi : i + 6 ≤ L) (hL : L ≤ 3072) (next : ∀ M, RR M → ∃ M', EvP (lP b L xs) zY 20 m_LAW 1755 (llo (i : Int)) [] M (some (vI 1)) M') : ∀ M, RR M → ∃ M', EvP (lP b L xs) zY 20 m_LAW 277 (llo (i : Int)) [] M (some (vI 1)) M' :=
  L_caseJ (gX := m_X10_top) (gM := m_X11_top) (vs := []) k_X10_top k_X11_top (s_top) 277 278 282 18 2232 22 6145 (1469) (by decide +kernel)
    (fun M v M' st h => L_args hi hL [] (by decide +kernel) rfl h) (fun M v M' st h => L_args hi hL [] (by decide +kernel) rfl h)
    (by decide +kernel) (by decide +kernel) rfl rfl rfl rfl rfl rfl (Nat.le_of_ble_eq_true rfl) (Nat.le_of_ble_eq_true rfl)
    (fun M x N h => e_X10_top 19 M x N h) (fun M x N h => e_X11_top 19 M x N h) next
theorem lc_2 (hi : i + 6 ≤ L) (hL : L ≤ 3072) (next : ∀ M, RR M → ∃ M', EvP (lP b L xs) zY 20 m_LAW 1755 (llo (i : Int)) [] M (some (vI 1)) M') : ∀ M, RR M → ∃ M', EvP (lP b L xs) zY 20 m_LAW 291 (llo (i : Int)) [] M (some (vI 1)) M' :=
  L_caseJ (gX := m_X10_bottom) (gM := m_X11_bottom) (vs := []) k_X10_bottom k_X11_bottom (s_bottom) 291 292 296 23 2236 26 6149 (1455) (by decide +kernel)
    (fun M v M' st h => L_args hi hL [] (by decide +kernel) rfl h) (fun M v M' st h => L_args hi hL [] (by decide +kernel) rfl h)
    (by decide +kernel) (by decide +kernel) rfl rfl rfl rfl rfl rfl (Nat.le_of_ble_eq_true rfl) (Nat.le_of_ble_eq_true rfl)
    (fun M x N h => e_X10_bottom 19 M x N h) (fun M x N h => e_X11_bottom 19 M x N h) next
theorem lc_3 (hi : i + 6 ≤ L) (hL : L ≤ 3072) (next : ∀ M, RR M → ∃ M', EvP (lP b L xs) zY 20 m_LAW 1755 (llo (i : Int)) [] M (some (vI 1)) M') : ∀ M, RR M → ∃ M', EvP (lP b L xs) zY 20 m_LAW 305 (llo (i : Int)) [] M (some (vI 1)) M' :=
  L_caseI (gX := m_X10_tray) (gM := m_X11_tray) (vs := [vI (xs (i + 1)).toInt, vI (xs (i + 2)).toInt, vI (xs (i + 3)).toInt]) k_X10_tray k_X11_tray (a_tray (xs (i + 1)).toInt (xs (i + 2)).toInt (xs (i + 3)).toInt) 305 321 340 27 3000 31 6153 (1412) (by decide +kernel)
    (fun M v M' st h => L_args hi hL [1, 2, 3] (by decide +kernel) rfl h) (fun M v M' st h => L_args hi hL [1, 2, 3] (by decide +kernel) rfl h)
    (by decide +kernel) (by decide +kernel) rfl rfl rfl rfl rfl rfl (Nat.le_of_ble_eq_true rfl) (Nat.le_of_ble_eq_true rfl)
    (fun M x N h => e_X10_tray 17 (xs (i + 1)).toInt (xs (i + 2)).toInt (xs (i + 3)).toInt M x N h) (fun M x N h => e_X11_tray 18 (xs (i + 1)).toInt (xs (i + 2)).toInt (xs (i + 3)).toInt M x N h) next
theorem lc_4 (hi : i + 6 ≤ L) (hL : L ≤ 3072) (next : ∀ M, RR M → ∃ M', EvP (lP b L xs) zY 20 m_LAW 1755 (llo (i : Int)) [] M (some (vI 1)) M') : ∀ M, RR M → ∃ M', EvP (lP b L xs) zY 20 m_LAW 348 (llo (i : Int)) [] M (some (vI 1)) M' :=
  L_caseI (gX := m_X10_write) (gM := m_X11_write) (vs := [vI (xs (i + 1)).toInt, vI (xs (i + 2)).toInt, vL (lww xs i)]) k_X10_write k_X11_write (a_write (xs (i + 1)).toInt (xs (i + 2)).toInt (lww xs i)) 348 379 413 34 3022 38 6161 (1339) (by decide +kernel)
    (fun M v M' st h => L_argW (w := 9044) (by decide +kernel) hi hL h) (fun M v M' st h => L_argW (w := 9044) (by decide +kernel) hi hL h)
    (by decide +kernel) (by decide +kernel) rfl rfl rfl rfl rfl rfl (Nat.le_of_ble_eq_true rfl) (Nat.le_of_ble_eq_true rfl)
    (fun M x N h => e_X10_write 17 (xs (i + 1)).toInt (xs (i + 2)).toInt (lww xs i) M x N h) (fun M x N h => e_X11_write 17 (xs (i + 1)).toInt (xs (i + 2)).toInt (lww xs i) M x N h) next
theorem lc_5 (hi : i + 6 ≤ L) (hL : L ≤ 3072) (next : ∀ M, RR M → ∃ M', EvP (lP b L xs) zY 20 m_LAW 1755 (llo (i : Int)) [] M (some (vI 1)) M') : ∀ M, RR M → ∃ M', EvP (lP b L xs) zY 20 m_LAW 421 (llo (i : Int)) [] M (some (vI 1)) M' :=
  L_caseJ (gX := m_X10_read) (gM := m_X11_read) (vs := [vI (xs (i + 1)).toInt, vI (xs (i + 2)).toInt]) k_X10_read k_X11_read (a_read (xs (i + 1)).toInt (xs (i + 2)).toInt) 421 432 446 39 3043 43 6176 (1305) (by decide +kernel)
    (fun M v M' st h => L_args hi hL [1, 2] (by decide +kernel) rfl h) (fun M v M' st h => L_args hi hL [1, 2] (by decide +kernel) rfl h)
    (by decide +kernel) (by decide +kernel) rfl rfl rfl rfl rfl rfl (Nat.le_of_ble_eq_true rfl) (Nat.le_of_ble_eq_true rfl)
    (fun M x N h => e_X10_read 17 (xs (i + 1)).toInt (xs (i + 2)).toInt M x N h) (fun M x N h => e_X11_read 17 (xs (i + 1)).toInt (xs (i + 2)).toInt M x N h) next
theorem lc_6 (hi : i + 6 ≤ L) (hL : L ≤ 3072) (next : ∀ M, RR M → ∃ M', EvP (lP b L xs) zY 20 m_LAW 1755 (llo (i : Int)) [] M (some (vI 1)) M') : ∀ M, RR M → ∃ M', EvP (lP b L xs) zY 20 m_LAW 455 (llo (i : Int)) [] M (some (vI 1)) M' :=
  L_caseI (gX := m_X10_pour) (gM := m_X11_pour) (vs := [vI (xs (i + 1)).toInt, vI (xs (i + 2)).toInt, vI (xs (i + 3)).toInt, vI (xs (i + 4)).toInt, vI (xs (i + 5)).toInt]) k_X10_pour k_X11_pour (a_pour (xs (i + 1)).toInt (xs (i + 2)).toInt (xs (i + 3)).toInt (xs (i + 4)).toInt (xs (i + 5)).toInt (i32b_of (xs (i + 2))) (i32b_of (xs (i + 4))) (i32b_of (xs (i + 5)))) 455 481 510 44 3056 48 6181 (1242) (by decide +kernel)
    (fun M v M' st h => L_args hi hL [1, 2, 3, 4, 5] (by decide +kernel) rfl h) (fun M v M' st h => L_args hi hL [1, 2, 3, 4, 5] (by decide +kernel) rfl h)
    (by decide +kernel) (by decide +kernel) rfl rfl rfl rfl rfl rfl (Nat.le_of_ble_eq_true rfl) (Nat.le_of_ble_eq_true rfl)
    (fun M x N h => e_X10_pour 18 (xs (i + 1)).toInt (xs (i + 2)).toInt (xs (i + 3)).toInt (xs (i + 4)).toInt (xs (i + 5)).toInt M x N h) (fun M x N h => e_X11_pour 18 (xs (i + 1)).toInt (xs (i + 2)).toInt (xs (i + 3)).toInt (xs (i + 4)).toInt (xs (i + 5)).toInt M x N h) next
theorem lc_7 (hi : i + 6 ≤ L) (hL : L ≤ 3072) (next : ∀ M, RR M → ∃ M', EvP (lP b L xs) zY 20 m_LAW 1755 (llo (i : Int)) [] M (some (vI 1)) M') : ∀ M, RR M → ∃ M', EvP (lP b L xs) zY 20 m_LAW 518 (llo (i : Int)) [] M (some (vI 1)) M' :=
  L_caseI (gX := m_X10_feed) (gM := m_X11_feed) (vs := [vI (xs (i + 1)).toInt, vI (xs (i + 2)).toInt, vI (xs (i + 3)).toInt, vI (xs (i + 4)).toInt, vI (xs (i + 5)).toInt]) k_X10_feed k_X11_feed (a_feed (xs (i + 1)).toInt (xs (i + 2)).toInt (xs (i + 3)).toInt (xs (i + 4)).toInt (xs (i + 5)).toInt) 518 544 573 49 3063 53 6185 (1179) (by decide +kernel)
    (fun M v M' st h => L_args hi hL [1, 2, 3, 4, 5] (by decide +kernel) rfl h) (fun M v M' st h => L_args hi hL [1, 2, 3, 4, 5] (by decide +kernel) rfl h)
    (by decide +kernel) (by decide +kernel) rfl rfl rfl rfl rfl rfl (Nat.le_of_ble_eq_true rfl) (Nat.le_of_ble_eq_true rfl)
    (fun M x N h => e_X10_feed 18 (xs (i + 1)).toInt (xs (i + 2)).toInt (xs (i + 3)).toInt (xs (i + 4)).toInt (xs (i + 5)).toInt M x N h) (fun M x N h => e_X11_feed 18 (xs (i + 1)).toInt (xs (i + 2)).toInt (xs (i + 3)).toInt (xs (i + 4)).toInt (xs (i + 5)).toInt M x N h) next
theorem lc_8 (hi : i + 6 ≤ L) (hL : L ≤ 3072) (next : ∀ M, RR M → ∃ M', EvP (lP b L xs) zY 20 m_LAW 1755 (llo (i : Int)) [] M (some (vI 1)) M') : ∀ M, RR M → ∃ M', EvP (lP b L xs) zY 20 m_LAW 581 (llo (i : Int)) [] M (some (vI 1)) M' :=
  L_caseI (gX := m_X10_house) (gM := m_X11_house) (vs := [vI (xs (i + 1)).toInt]) k_X10_house k_X11_house (a_house (xs (i + 1)).toInt) 581 587 596 54 3071 58 6197 (1156) (by decide +kernel)
    (fun M v M' st h => L_args hi hL [1] (by decide +kernel) rfl h) (fun M v M' st h => L_args hi hL [1] (by decide +kernel) rfl h)
    (by decide +kernel) (by decide +kernel) rfl rfl rfl rfl rfl rfl (Nat.le_of_ble_eq_true rfl) (Nat.le_of_ble_eq_true rfl)
    (fun M x N h => e_X10_house 12 (xs (i + 1)).toInt M x N h) (fun M x N h => e_X11_house 10 (xs (i + 1)).toInt M x N h) next
theorem lc_9 (hi : i + 6 ≤ L) (hL : L ≤ 3072) (next : ∀ M, RR M → ∃ M', EvP (lP b L xs) zY 20 m_LAW 1755 (llo (i : Int)) [] M (some (vI 1)) M') : ∀ M, RR M → ∃ M', EvP (lP b L xs) zY 20 m_LAW 604 (llo (i : Int)) [] M (some (vI 1)) M' :=
  L_caseI (gX := m_X10_years) (gM := m_X11_years) (vs := [vI (xs (i + 1)).toInt]) k_X10_years k_X11_years (a_years (xs (i + 1)).toInt) 604 610 619 59 3198 62 7142 (1133) (by decide +kernel)
    (fun M v M' st h => L_args hi hL [1] (by decide +kernel) rfl h) (fun M v M' st h => L_args hi hL [1] (by decide +kernel) rfl h)
    (by decide +kernel) (by decide +kernel) rfl rfl rfl rfl rfl rfl (Nat.le_of_ble_eq_true rfl) (Nat.le_of_ble_eq_true rfl)
    (fun M x N h => e_X10_years 12 (xs (i + 1)).toInt M x N h) (fun M x N h => e_X11_years 4 (xs (i + 1)).toInt M x N h) next
theorem lc_10 (hi : i + 6 ≤ L) (hL : L ≤ 3072) (next : ∀ M, RR M → ∃ M', EvP (lP b L xs) zY 20 m_LAW 1755 (llo (i : Int)) [] M (some (vI 1)) M') : ∀ M, RR M → ∃ M', EvP (lP b L xs) zY 20 m_LAW 627 (llo (i : Int)) [] M (some (vI 1)) M' :=
  L_caseI (gX := m_X10_fault) (gM := m_X11_fault) (vs := [vI (xs (i + 1)).toInt]) k_X10_fault k_X11_fault (s_fault (xs (i + 1)).toInt) 627 633 642 63 4016 66 6193 (1110) (by decide +kernel)
    (fun M v M' st h => L_args hi hL [1] (by decide +kernel) rfl h) (fun M v M' st h => L_args hi hL [1] (by decide +kernel) rfl h)
    (by decide +kernel) (by decide +kernel) rfl rfl rfl rfl rfl rfl (Nat.le_of_ble_eq_true rfl) (Nat.le_of_ble_eq_true rfl)
    (fun M x N h => e_X10_fault 19 (xs (i + 1)).toInt M x N h) (fun M x N h => e_X11_fault 19 (xs (i + 1)).toInt M x N h) next
theorem lc_11 (hi : i + 6 ≤ L) (hL : L ≤ 3072) (next : ∀ M, RR M → ∃ M', EvP (lP b L xs) zY 20 m_LAW 1755 (llo (i : Int)) [] M (some (vI 1)) M') : ∀ M, RR M → ∃ M', EvP (lP b L xs) zY 20 m_LAW 650 (llo (i : Int)) [] M (some (vI 1)) M' :=
  L_caseI (gX := m_X10_many) (gM := m_X11_many) (vs := [vI (xs (i + 1)).toInt]) k_X10_many k_X11_many (a_many (xs (i + 1)).toInt) 650 656 665 67 4020 70 7158 (1087) (by decide +kernel)
    (fun M v M' st h => L_args hi hL [1] (by decide +kernel) rfl h) (fun M v M' st h => L_args hi hL [1] (by decide +kernel) rfl h)
    (by decide +kernel) (by decide +kernel) rfl rfl rfl rfl rfl rfl (Nat.le_of_ble_eq_true rfl) (Nat.le_of_ble_eq_true rfl)
    (fun M x N h => e_X10_many 14 (xs (i + 1)).toInt M x N h) (fun M x N h => e_X11_many 15 (xs (i + 1)).toInt M x N h) next
theorem lc_12 (hi : i + 6 ≤ L) (hL : L ≤ 3072) (next : ∀ M, RR M → ∃ M', EvP (lP b L xs) zY 20 m_LAW 1755 (llo (i : Int)) [] M (some (vI 1)) M') : ∀ M, RR M → ∃ M', EvP (lP b L xs) zY 20 m_LAW 673 (llo (i : Int)) [] M (some (vI 1)) M' :=
  L_caseI (gX := m_X10_wire) (gM := m_X11_wire) (vs := [vI (xs (i + 1)).toInt, vI (xs (i + 2)).toInt]) k_X10_wire k_X11_wire (a_wire (xs (i + 1)).toInt (xs (i + 2)).toInt) 673 684 698 71 4052 75 7196 (1054) (by decide +kernel)
    (fun M v M' st h => L_args hi hL [1, 2] (by decide +kernel) rfl h) (fun M v M' st h => L_args hi hL [1, 2] (by decide +kernel) rfl h)
    (by decide +kernel) (by decide +kernel) rfl rfl rfl rfl rfl rfl (Nat.le_of_ble_eq_true rfl) (Nat.le_of_ble_eq_true rfl)
    (fun M x N h => e_X10_wire 18 (xs (i + 1)).toInt (xs (i + 2)).toInt M x N h) (fun M x N h => e_X11_wire 17 (xs (i + 1)).toInt (xs (i + 2)).toInt M x N h) next
theorem lc_13 (hi : i + 6 ≤ L) (hL : L ≤ 3072) (next : ∀ M, RR M → ∃ M', EvP (lP b L xs) zY 20 m_LAW 1755 (llo (i : Int)) [] M (some (vI 1)) M') : ∀ M, RR M → ∃ M', EvP (lP b L xs) zY 20 m_LAW 706 (llo (i : Int)) [] M (some (vI 1)) M' :=
  L_caseI (gX := m_X10_couple) (gM := m_X11_couple) (vs := [vI (xs (i + 1)).toInt, vI (xs (i + 2)).toInt]) k_X10_couple k_X11_couple (a_couple (xs (i + 1)).toInt (xs (i + 2)).toInt) 706 717 731 76 4064 79 7205 (1021) (by decide +kernel)
    (fun M v M' st h => L_args hi hL [1, 2] (by decide +kernel) rfl h) (fun M v M' st h => L_args hi hL [1, 2] (by decide +kernel) rfl h)
    (by decide +kernel) (by decide +kernel) rfl rfl rfl rfl rfl rfl (Nat.le_of_ble_eq_true rfl) (Nat.le_of_ble_eq_true rfl)
    (fun M x N h => e_X10_couple 15 (xs (i + 1)).toInt (xs (i + 2)).toInt M x N h) (fun M x N h => e_X11_couple 15 (xs (i + 1)).toInt (xs (i + 2)).toInt M x N h) next
theorem lc_14 (hi : i + 6 ≤ L) (hL : L ≤ 3072) (next : ∀ M, RR M → ∃ M', EvP (lP b L xs) zY 20 m_LAW 1755 (llo (i : Int)) [] M (some (vI 1)) M') : ∀ M, RR M → ∃ M', EvP (lP b L xs) zY 20 m_LAW 739 (llo (i : Int)) [] M (some (vI 1)) M' :=
  L_caseI (gX := m_X10_copyLove) (gM := m_X11_copyLove) (vs := [vI (xs (i + 1)).toInt]) k_X10_copyLove k_X11_copyLove (a_copyLove (xs (i + 1)).toInt) 739 745 754 80 4077 83 7214 (998) (by decide +kernel)
    (fun M v M' st h => L_args hi hL [1] (by decide +kernel) rfl h) (fun M v M' st h => L_args hi hL [1] (by decide +kernel) rfl h)
    (by decide +kernel) (by decide +kernel) rfl rfl rfl rfl rfl rfl (Nat.le_of_ble_eq_true rfl) (Nat.le_of_ble_eq_true rfl)
    (fun M x N h => e_X10_copyLove 17 (xs (i + 1)).toInt M x N h) (fun M x N h => e_X11_copyLove 16 (xs (i + 1)).toInt M x N h) next
theorem lc_15 (hi : i + 6 ≤ L) (hL : L ≤ 3072) (next : ∀ M, RR M → ∃ M', EvP (lP b L xs) zY 20 m_LAW 1755 (llo (i : Int)) [] M (some (vI 1)) M') : ∀ M, RR M → ∃ M', EvP (lP b L xs) zY 20 m_LAW 762 (llo (i : Int)) [] M (some (vI 1)) M' :=
  L_caseI (gX := m_X10_day) (gM := m_X11_day) (vs := [vI (xs (i + 1)).toInt]) k_X10_day k_X11_day (a_day (xs (i + 1)).toInt) 762 768 777 84 4081 87 7223 (975) (by decide +kernel)
    (fun M v M' st h => L_args hi hL [1] (by decide +kernel) rfl h) (fun M v M' st h => L_args hi hL [1] (by decide +kernel) rfl h)
    (by decide +kernel) (by decide +kernel) rfl rfl rfl rfl rfl rfl (Nat.le_of_ble_eq_true rfl) (Nat.le_of_ble_eq_true rfl)
    (fun M x N h => e_X10_day 14 (xs (i + 1)).toInt M x N h) (fun M x N h => e_X11_day 15 (xs (i + 1)).toInt M x N h) next
theorem lc_16 (hi : i + 6 ≤ L) (hL : L ≤ 3072) (next : ∀ M, RR M → ∃ M', EvP (lP b L xs) zY 20 m_LAW 1755 (llo (i : Int)) [] M (some (vI 1)) M') : ∀ M, RR M → ∃ M', EvP (lP b L xs) zY 20 m_LAW 785 (llo (i : Int)) [] M (some (vI 1)) M' :=
  L_caseI (gX := m_X10_damp) (gM := m_X11_damp) (vs := [vI (if (xs (i + 1)).toInt = 0 then 0 else 1)]) k_X10_damp k_X11_damp (a_damp (if (xs (i + 1)).toInt = 0 then 0 else 1) (by split; exact Or.inl rfl; exact Or.inr rfl)) 785 799 816 88 4122 92 8000 (936) (by decide +kernel)
    (fun M v M' st h => L_argD (by decide +kernel) hi hL h) (fun M v M' st h => L_argD (by decide +kernel) hi hL h)
    (by decide +kernel) (by decide +kernel) rfl rfl rfl rfl rfl rfl (Nat.le_of_ble_eq_true rfl) (Nat.le_of_ble_eq_true rfl)
    (fun M x N h => e_X10_damp 18 (if (xs (i + 1)).toInt = 0 then 0 else 1) M x N h) (fun M x N h => e_X11_damp 18 (if (xs (i + 1)).toInt = 0 then 0 else 1) M x N h) next
theorem lc_17 (hi : i + 6 ≤ L) (hL : L ≤ 3072) (next : ∀ M, RR M → ∃ M', EvP (lP b L xs) zY 20 m_LAW 1755 (llo (i : Int)) [] M (some (vI 1)) M') : ∀ M, RR M → ∃ M', EvP (lP b L xs) zY 20 m_LAW 824 (llo (i : Int)) [] M (some (vI 1)) M' :=
  L_caseI (gX := m_X10_cut) (gM := m_X11_cut_) (vs := [vI (xs (i + 1)).toInt]) k_X10_cut k_X11_cut_ (a_cut (xs (i + 1)).toInt) 824 830 839 93 4126 96 8008 (913) (by decide +kernel)
    (fun M v M' st h => L_args hi hL [1] (by decide +kernel) rfl h) (fun M v M' st h => L_args hi hL [1] (by decide +kernel) rfl h)
    (by decide +kernel) (by decide +kernel) rfl rfl rfl rfl rfl rfl (Nat.le_of_ble_eq_true rfl) (Nat.le_of_ble_eq_true rfl)
    (fun M x N h => e_X10_cut 18 (xs (i + 1)).toInt M x N h) (fun M x N h => e_X11_cut_ 17 (xs (i + 1)).toInt M x N h) next
theorem lc_18 (hi : i + 6 ≤ L) (hL : L ≤ 3072) (next : ∀ M, RR M → ∃ M', EvP (lP b L xs) zY 20 m_LAW 1755 (llo (i : Int)) [] M (some (vI 1)) M') : ∀ M, RR M → ∃ M', EvP (lP b L xs) zY 20 m_LAW 847 (llo (i : Int)) [] M (some (vI 1)) M' :=
  L_caseI (gX := m_X10_mend) (gM := m_X11_mend) (vs := [vI (xs (i + 1)).toInt]) k_X10_mend k_X11_mend (a_mend (xs (i + 1)).toInt) 847 853 862 97 4134 100 8012 (890) (by decide +kernel)
    (fun M v M' st h => L_args hi hL [1] (by decide +kernel) rfl h) (fun M v M' st h => L_args hi hL [1] (by decide +kernel) rfl h)
    (by decide +kernel) (by decide +kernel) rfl rfl rfl rfl rfl rfl (Nat.le_of_ble_eq_true rfl) (Nat.le_of_ble_eq_true rfl)
    (fun M x N h => e_X10_mend 16 (xs (i + 1)).toInt M x N h) (fun M x N h => e_X11_mend 17 (xs (i + 1)).toInt M x N h) next
theorem lc_19 (hi : i + 6 ≤ L) (hL : L ≤ 3072) (next : ∀ M, RR M → ∃ M', EvP (lP b L xs) zY 20 m_LAW 1755 (llo (i : Int)) [] M (some (vI 1)) M') : ∀ M, RR M → ∃ M', EvP (lP b L xs) zY 20 m_LAW 870 (llo (i : Int)) [] M (some (vI 1)) M' :=
  L_caseI (gX := m_X10_stretch) (gM := m_X11_stretch) (vs := [vI (xs (i + 1)).toInt, vI (xs (i + 2)).toInt]) k_X10_stretch k_X11_stretch (a_stretch (xs (i + 1)).toInt (xs (i + 2)).toInt) 870 881 895 101 4151 105 8024 (857) (by decide +kernel)
    (fun M v M' st h => L_args hi hL [1, 2] (by decide +kernel) rfl h) (fun M v M' st h => L_args hi hL [1, 2] (by decide +kernel) rfl h)
    (by decide +kernel) (by decide +kernel) rfl rfl rfl rfl rfl rfl (Nat.le_of_ble_eq_true rfl) (Nat.le_of_ble_eq_true rfl)
    (fun M x N h => e_X10_stretch 17 (xs (i + 1)).toInt (xs (i + 2)).toInt M x N h) (fun M x N h => e_X11_stretch 17 (xs (i + 1)).toInt (xs (i + 2)).toInt M x N h) next
theorem lc_20 (hi : i + 6 ≤ L) (hL : L ≤ 3072) (next : ∀ M, RR M → ∃ M', EvP (lP b L xs) zY 20 m_LAW 1755 (llo (i : Int)) [] M (some (vI 1)) M') : ∀ M, RR M → ∃ M', EvP (lP b L xs) zY 20 m_LAW 903 (llo (i : Int)) [] M (some (vI 1)) M' :=
  L_caseI (gX := m_X10_string) (gM := m_X11_string) (vs := [vI (xs (i + 1)).toInt, vI (xs (i + 2)).toInt]) k_X10_string k_X11_string (a_string (xs (i + 1)).toInt (xs (i + 2)).toInt) 903 914 928 106 4156 109 8029 (824) (by decide +kernel)
    (fun M v M' st h => L_args hi hL [1, 2] (by decide +kernel) rfl h) (fun M v M' st h => L_args hi hL [1, 2] (by decide +kernel) rfl h)
    (by decide +kernel) (by decide +kernel) rfl rfl rfl rfl rfl rfl (Nat.le_of_ble_eq_true rfl) (Nat.le_of_ble_eq_true rfl)
    (fun M x N h => e_X10_string 18 (xs (i + 1)).toInt (xs (i + 2)).toInt M x N h) (fun M x N h => e_X11_string 17 (xs (i + 1)).toInt (xs (i + 2)).toInt M x N h) next
theorem lc_21 (hi : i + 6 ≤ L) (hL : L ≤ 3072) (next : ∀ M, RR M → ∃ M', EvP (lP b L xs) zY 20 m_LAW 1755 (llo (i : Int)) [] M (some (vI 1)) M') : ∀ M, RR M → ∃ M', EvP (lP b L xs) zY 20 m_LAW 936 (llo (i : Int)) [] M (some (vI 1)) M' :=
  L_caseI (gX := m_X10_move) (gM := m_X11_move) (vs := [vI (xs (i + 1)).toInt, vI (xs (i + 2)).toInt, vI (xs (i + 3)).toInt]) k_X10_move k_X11_move (a_move (xs (i + 1)).toInt (xs (i + 2)).toInt (xs (i + 3)).toInt) 936 952 971 110 4162 114 8037 (781) (by decide +kernel)
    (fun M v M' st h => L_args hi hL [1, 2, 3] (by decide +kernel) rfl h) (fun M v M' st h => L_args hi hL [1, 2, 3] (by decide +kernel) rfl h)
    (by decide +kernel) (by decide +kernel) rfl rfl rfl rfl rfl rfl (Nat.le_of_ble_eq_true rfl) (Nat.le_of_ble_eq_true rfl)
    (fun M x N h => e_X10_move 18 (xs (i + 1)).toInt (xs (i + 2)).toInt (xs (i + 3)).toInt M x N h) (fun M x N h => e_X11_move 17 (xs (i + 1)).toInt (xs (i + 2)).toInt (xs (i + 3)).toInt M x N h) next
theorem lc_22 (hi : i + 6 ≤ L) (hL : L ≤ 3072) (next : ∀ M, RR M → ∃ M', EvP (lP b L xs) zY 20 m_LAW 1755 (llo (i : Int)) [] M (some (vI 1)) M') : ∀ M, RR M → ∃ M', EvP (lP b L xs) zY 20 m_LAW 979 (llo (i : Int)) [] M (some (vI 1)) M' :=
  L_caseI (gX := m_X10_wed) (gM := m_X11_wed) (vs := [vI (xs (i + 1)).toInt, vI (xs (i + 2)).toInt]) k_X10_wed k_X11_wed (a_wed (xs (i + 1)).toInt (xs (i + 2)).toInt) 979 990 1004 115 4166 118 8041 (748) (by decide +kernel)
    (fun M v M' st h => L_args hi hL [1, 2] (by decide +kernel) rfl h) (fun M v M' st h => L_args hi hL [1, 2] (by decide +kernel) rfl h)
    (by decide +kernel) (by decide +kernel) rfl rfl rfl rfl rfl rfl (Nat.le_of_ble_eq_true rfl) (Nat.le_of_ble_eq_true rfl)
    (fun M x N h => e_X10_wed 18 (xs (i + 1)).toInt (xs (i + 2)).toInt M x N h) (fun M x N h => e_X11_wed 17 (xs (i + 1)).toInt (xs (i + 2)).toInt M x N h) next
theorem lc_23 (hi : i + 6 ≤ L) (hL : L ≤ 3072) (next : ∀ M, RR M → ∃ M', EvP (lP b L xs) zY 20 m_LAW 1755 (llo (i : Int)) [] M (some (vI 1)) M') : ∀ M, RR M → ∃ M', EvP (lP b L xs) zY 20 m_LAW 1012 (llo (i : Int)) [] M (some (vI 1)) M' :=
  L_caseI (gX := m_X10_divorce) (gM := m_X11_divorce) (vs := [vI (xs (i + 1)).toInt]) k_X10_divorce k_X11_divorce (a_divorce (xs (i + 1)).toInt) 1012 1018 1027 119 4170 122 8045 (725) (by decide +kernel)
    (fun M v M' st h => L_args hi hL [1] (by decide +kernel) rfl h) (fun M v M' st h => L_args hi hL [1] (by decide +kernel) rfl h)
    (by decide +kernel) (by decide +kernel) rfl rfl rfl rfl rfl rfl (Nat.le_of_ble_eq_true rfl) (Nat.le_of_ble_eq_true rfl)
    (fun M x N h => e_X10_divorce 18 (xs (i + 1)).toInt M x N h) (fun M x N h => e_X11_divorce 17 (xs (i + 1)).toInt M x N h) next
theorem lc_24 (hi : i + 6 ≤ L) (hL : L ≤ 3072) (next : ∀ M, RR M → ∃ M', EvP (lP b L xs) zY 20 m_LAW 1755 (llo (i : Int)) [] M (some (vI 1)) M') : ∀ M, RR M → ∃ M', EvP (lP b L xs) zY 20 m_LAW 1035 (llo (i : Int)) [] M (some (vI 1)) M' :=
  L_caseI (gX := m_X10_rule) (gM := m_X11_rule) (vs := [vI (xs (i + 1)).toInt, vI (xs (i + 2)).toInt]) k_X10_rule k_X11_rule (a_rule (xs (i + 1)).toInt (xs (i + 2)).toInt) 1035 1046 1060 123 4174 126 8049 (692) (by decide +kernel)
    (fun M v M' st h => L_args hi hL [1, 2] (by decide +kernel) rfl h) (fun M v M' st h => L_args hi hL [1, 2] (by decide +kernel) rfl h)
    (by decide +kernel) (by decide +kernel) rfl rfl rfl rfl rfl rfl (Nat.le_of_ble_eq_true rfl) (Nat.le_of_ble_eq_true rfl)
    (fun M x N h => e_X10_rule 18 (xs (i + 1)).toInt (xs (i + 2)).toInt M x N h) (fun M x N h => e_X11_rule 18 (xs (i + 1)).toInt (xs (i + 2)).toInt M x N h) next
theorem lc_25 (hi : i + 6 ≤ L) (hL : L ≤ 3072) (next : ∀ M, RR M → ∃ M', EvP (lP b L xs) zY 20 m_LAW 1755 (llo (i : Int)) [] M (some (vI 1)) M') : ∀ M, RR M → ∃ M', EvP (lP b L xs) zY 20 m_LAW 1068 (llo (i : Int)) [] M (some (vI 1)) M' :=
  L_caseI (gX := m_X10_far) (gM := m_X11_far) (vs := [vI (xs (i + 1)).toInt, vI (xs (i + 2)).toInt]) k_X10_far k_X11_far (a_far (xs (i + 1)).toInt (xs (i + 2)).toInt) 1068 1079 1093 127 4178 130 8055 (659) (by decide +kernel)
    (fun M v M' st h => L_args hi hL [1, 2] (by decide +kernel) rfl h) (fun M v M' st h => L_args hi hL [1, 2] (by decide +kernel) rfl h)
    (by decide +kernel) (by decide +kernel) rfl rfl rfl rfl rfl rfl (Nat.le_of_ble_eq_true rfl) (Nat.le_of_ble_eq_true rfl)
    (fun M x N h => e_X10_far 16 (xs (i + 1)).toInt (xs (i + 2)).toInt M x N h) (fun M x N h => e_X11_far 17 (xs (i + 1)).toInt (xs (i + 2)).toInt M x N h) next
theorem lc_26 (hi : i + 6 ≤ L) (hL : L ≤ 3072) (next : ∀ M, RR M → ∃ M', EvP (lP b L xs) zY 20 m_LAW 1755 (llo (i : Int)) [] M (some (vI 1)) M') : ∀ M, RR M → ∃ M', EvP (lP b L xs) zY 20 m_LAW 1101 (llo (i : Int)) [] M (some (vI 1)) M' :=
  L_caseI (gX := m_X10_heard) (gM := m_X11_heard) (vs := [vI (xs (i + 1)).toInt]) k_X10_heard k_X11_heard (a_heard (xs (i + 1)).toInt) 1101 1107 1116 131 4183 134 8059 (636) (by decide +kernel)
    (fun M v M' st h => L_args hi hL [1] (by decide +kernel) rfl h) (fun M v M' st h => L_args hi hL [1] (by decide +kernel) rfl h)
    (by decide +kernel) (by decide +kernel) rfl rfl rfl rfl rfl rfl (Nat.le_of_ble_eq_true rfl) (Nat.le_of_ble_eq_true rfl)
    (fun M x N h => e_X10_heard 15 (xs (i + 1)).toInt M x N h) (fun M x N h => e_X11_heard 16 (xs (i + 1)).toInt M x N h) next
theorem lc_27 (hi : i + 6 ≤ L) (hL : L ≤ 3072) (next : ∀ M, RR M → ∃ M', EvP (lP b L xs) zY 20 m_LAW 1755 (llo (i : Int)) [] M (some (vI 1)) M') : ∀ M, RR M → ∃ M', EvP (lP b L xs) zY 20 m_LAW 1124 (llo (i : Int)) [] M (some (vI 1)) M' :=
  L_caseI (gX := m_X10_rings) (gM := m_X11_rings) (vs := [vI (xs (i + 1)).toInt]) k_X10_rings k_X11_rings (a_rings (xs (i + 1)).toInt) 1124 1130 1139 135 4191 138 8067 (613) (by decide +kernel)
    (fun M v M' st h => L_args hi hL [1] (by decide +kernel) rfl h) (fun M v M' st h => L_args hi hL [1] (by decide +kernel) rfl h)
    (by decide +kernel) (by decide +kernel) rfl rfl rfl rfl rfl rfl (Nat.le_of_ble_eq_true rfl) (Nat.le_of_ble_eq_true rfl)
    (fun M x N h => e_X10_rings 16 (xs (i + 1)).toInt M x N h) (fun M x N h => e_X11_rings 17 (xs (i + 1)).toInt M x N h) next
theorem lc_28 (hi : i + 6 ≤ L) (hL : L ≤ 3072) (next : ∀ M, RR M → ∃ M', EvP (lP b L xs) zY 20 m_LAW 1755 (llo (i : Int)) [] M (some (vI 1)) M') : ∀ M, RR M → ∃ M', EvP (lP b L xs) zY 20 m_LAW 1147 (llo (i : Int)) [] M (some (vI 1)) M' :=
  L_caseI (gX := m_X10_answers) (gM := m_X11_answers) (vs := [vI (xs (i + 1)).toInt]) k_X10_answers k_X11_answers (a_answers (xs (i + 1)).toInt) 1147 1153 1162 139 4195 142 8071 (590) (by decide +kernel)
    (fun M v M' st h => L_args hi hL [1] (by decide +kernel) rfl h) (fun M v M' st h => L_args hi hL [1] (by decide +kernel) rfl h)
    (by decide +kernel) (by decide +kernel) rfl rfl rfl rfl rfl rfl (Nat.le_of_ble_eq_true rfl) (Nat.le_of_ble_eq_true rfl)
    (fun M x N h => e_X10_answers 16 (xs (i + 1)).toInt M x N h) (fun M x N h => e_X11_answers 16 (xs (i + 1)).toInt M x N h) next
theorem lc_29 (hi : i + 6 ≤ L) (hL : L ≤ 3072) (next : ∀ M, RR M → ∃ M', EvP (lP b L xs) zY 20 m_LAW 1755 (llo (i : Int)) [] M (some (vI 1)) M') : ∀ M, RR M → ∃ M', EvP (lP b L xs) zY 20 m_LAW 1170 (llo (i : Int)) [] M (some (vI 1)) M' :=
  L_caseI (gX := m_X10_way) (gM := m_X11_way) (vs := [vI (xs (i + 1)).toInt, vI (xs (i + 2)).toInt, vI (xs (i + 3)).toInt]) k_X10_way k_X11_way (a_way (xs (i + 1)).toInt (xs (i + 2)).toInt (xs (i + 3)).toInt) 1170 1186 1205 143 4200 146 8075 (547) (by decide +kernel)
    (fun M v M' st h => L_args hi hL [1, 2, 3] (by decide +kernel) rfl h) (fun M v M' st h => L_args hi hL [1, 2, 3] (by decide +kernel) rfl h)
    (by decide +kernel) (by decide +kernel) rfl rfl rfl rfl rfl rfl (Nat.le_of_ble_eq_true rfl) (Nat.le_of_ble_eq_true rfl)
    (fun M x N h => e_X10_way 15 (xs (i + 1)).toInt (xs (i + 2)).toInt (xs (i + 3)).toInt M x N h) (fun M x N h => e_X11_way 17 (xs (i + 1)).toInt (xs (i + 2)).toInt (xs (i + 3)).toInt M x N h) next
theorem lc_30 (hi : i + 6 ≤ L) (hL : L ≤ 3072) (next : ∀ M, RR M → ∃ M', EvP (lP b L xs) zY 20 m_LAW 1755 (llo (i : Int)) [] M (some (vI 1)) M') : ∀ M, RR M → ∃ M', EvP (lP b L xs) zY 20 m_LAW 1213 (llo (i : Int)) [] M (some (vI 1)) M' :=
  L_caseI (gX := m_X10_parts) (gM := m_X11_parts) (vs := []) k_X10_parts k_X11_parts (a_parts) 1213 1214 1218 147 4212 150 8087 (534) (by decide +kernel)
    (fun M v M' st h => L_args hi hL [] (by decide +kernel) rfl h) (fun M v M' st h => L_args hi hL [] (by decide +kernel) rfl h)
    (by decide +kernel) (by decide +kernel) rfl rfl rfl rfl rfl rfl (Nat.le_of_ble_eq_true rfl) (Nat.le_of_ble_eq_true rfl)
    (fun M x N h => e_X10_parts 15 M x N h) (fun M x N h => e_X11_parts 18 M x N h) next
theorem lc_31 (hi : i + 6 ≤ L) (hL : L ≤ 3072) (next : ∀ M, RR M → ∃ M', EvP (lP b L xs) zY 20 m_LAW 1755 (llo (i : Int)) [] M (some (vI 1)) M') : ∀ M, RR M → ∃ M', EvP (lP b L xs) zY 20 m_LAW 1226 (llo (i : Int)) [] M (some (vI 1)) M' :=
  L_caseI (gX := m_X10_loveIn) (gM := m_X11_loveIn) (vs := [vI (xs (i + 1)).toInt, vI (xs (i + 2)).toInt]) k_X10_loveIn k_X11_loveIn (a_loveIn (xs (i + 1)).toInt (xs (i + 2)).toInt) 1226 1237 1251 151 4220 154 8091 (501) (by decide +kernel)
    (fun M v M' st h => L_args hi hL [1, 2] (by decide +kernel) rfl h) (fun M v M' st h => L_args hi hL [1, 2] (by decide +kernel) rfl h)
    (by decide +kernel) (by decide +kernel) rfl rfl rfl rfl rfl rfl (Nat.le_of_ble_eq_true rfl) (Nat.le_of_ble_eq_true rfl)
    (fun M x N h => e_X10_loveIn 13 (xs (i + 1)).toInt (xs (i + 2)).toInt M x N h) (fun M x N h => e_X11_loveIn 15 (xs (i + 1)).toInt (xs (i + 2)).toInt M x N h) next
theorem lc_32 (hi : i + 6 ≤ L) (hL : L ≤ 3072) (next : ∀ M, RR M → ∃ M', EvP (lP b L xs) zY 20 m_LAW 1755 (llo (i : Int)) [] M (some (vI 1)) M') : ∀ M, RR M → ∃ M', EvP (lP b L xs) zY 20 m_LAW 1259 (llo (i : Int)) [] M (some (vI 1)) M' :=
  L_caseI (gX := m_X10_partsIn) (gM := m_X11_partsIn) (vs := [vI (xs (i + 1)).toInt]) k_X10_partsIn k_X11_partsIn (a_partsIn (xs (i + 1)).toInt) 1259 1265 1274 155 4228 158 8107 (478) (by decide +kernel)
    (fun M v M' st h => L_args hi hL [1] (by decide +kernel) rfl h) (fun M v M' st h => L_args hi hL [1] (by decide +kernel) rfl h)
    (by decide +kernel) (by decide +kernel) rfl rfl rfl rfl rfl rfl (Nat.le_of_ble_eq_true rfl) (Nat.le_of_ble_eq_true rfl)
    (fun M x N h => e_X10_partsIn 15 (xs (i + 1)).toInt M x N h) (fun M x N h => e_X11_partsIn 15 (xs (i + 1)).toInt M x N h) next
theorem lc_33 (hi : i + 6 ≤ L) (hL : L ≤ 3072) (next : ∀ M, RR M → ∃ M', EvP (lP b L xs) zY 20 m_LAW 1755 (llo (i : Int)) [] M (some (vI 1)) M') : ∀ M, RR M → ∃ M', EvP (lP b L xs) zY 20 m_LAW 1282 (llo (i : Int)) [] M (some (vI 1)) M' :=
  L_caseI (gX := m_X10_silentIn) (gM := m_X11_silentIn) (vs := [vI (xs (i + 1)).toInt]) k_X10_silentIn k_X11_silentIn (a_silentIn (xs (i + 1)).toInt) 1282 1288 1297 159 4233 162 8111 (455) (by decide +kernel)
    (fun M v M' st h => L_args hi hL [1] (by decide +kernel) rfl h) (fun M v M' st h => L_args hi hL [1] (by decide +kernel) rfl h)
    (by decide +kernel) (by decide +kernel) rfl rfl rfl rfl rfl rfl (Nat.le_of_ble_eq_true rfl) (Nat.le_of_ble_eq_true rfl)
    (fun M x N h => e_X10_silentIn 15 (xs (i + 1)).toInt M x N h) (fun M x N h => e_X11_silentIn 15 (xs (i + 1)).toInt M x N h) next
theorem lc_34 (hi : i + 6 ≤ L) (hL : L ≤ 3072) (next : ∀ M, RR M → ∃ M', EvP (lP b L xs) zY 20 m_LAW 1755 (llo (i : Int)) [] M (some (vI 1)) M') : ∀ M, RR M → ∃ M', EvP (lP b L xs) zY 20 m_LAW 1305 (llo (i : Int)) [] M (some (vI 1)) M' :=
  L_caseI (gX := m_X10_holdIn) (gM := m_X11_holdIn) (vs := [vI (xs (i + 1)).toInt]) k_X10_holdIn k_X11_holdIn (a_holdIn (xs (i + 1)).toInt) 1305 1311 1320 163 4239 166 8115 (432) (by decide +kernel)
    (fun M v M' st h => L_args hi hL [1] (by decide +kernel) rfl h) (fun M v M' st h => L_args hi hL [1] (by decide +kernel) rfl h)
    (by decide +kernel) (by decide +kernel) rfl rfl rfl rfl rfl rfl (Nat.le_of_ble_eq_true rfl) (Nat.le_of_ble_eq_true rfl)
    (fun M x N h => e_X10_holdIn 13 (xs (i + 1)).toInt M x N h) (fun M x N h => e_X11_holdIn 15 (xs (i + 1)).toInt M x N h) next
theorem lc_35 (hi : i + 6 ≤ L) (hL : L ≤ 3072) (next : ∀ M, RR M → ∃ M', EvP (lP b L xs) zY 20 m_LAW 1755 (llo (i : Int)) [] M (some (vI 1)) M') : ∀ M, RR M → ∃ M', EvP (lP b L xs) zY 20 m_LAW 1328 (llo (i : Int)) [] M (some (vI 1)) M' :=
  L_caseI (gX := m_X10_mends) (gM := m_X11_mends) (vs := [vI (xs (i + 1)).toInt]) k_X10_mends k_X11_mends (a_mends (xs (i + 1)).toInt) 1328 1334 1343 167 5003 170 8119 (409) (by decide +kernel)
    (fun M v M' st h => L_args hi hL [1] (by decide +kernel) rfl h) (fun M v M' st h => L_args hi hL [1] (by decide +kernel) rfl h)
    (by decide +kernel) (by decide +kernel) rfl rfl rfl rfl rfl rfl (Nat.le_of_ble_eq_true rfl) (Nat.le_of_ble_eq_true rfl)
    (fun M x N h => e_X10_mends 14 (xs (i + 1)).toInt M x N h) (fun M x N h => e_X11_mends 14 (xs (i + 1)).toInt M x N h) next
theorem lc_36 (hi : i + 6 ≤ L) (hL : L ≤ 3072) (next : ∀ M, RR M → ∃ M', EvP (lP b L xs) zY 20 m_LAW 1755 (llo (i : Int)) [] M (some (vI 1)) M') : ∀ M, RR M → ∃ M', EvP (lP b L xs) zY 20 m_LAW 1351 (llo (i : Int)) [] M (some (vI 1)) M' :=
  L_caseI (gX := m_X10_mendSet) (gM := m_X11_mendSet) (vs := [vI (xs (i + 1)).toInt]) k_X10_mendSet k_X11_mendSet (a_mendSet (xs (i + 1)).toInt) 1351 1357 1366 171 5040 174 8134 (386) (by decide +kernel)
    (fun M v M' st h => L_args hi hL [1] (by decide +kernel) rfl h) (fun M v M' st h => L_args hi hL [1] (by decide +kernel) rfl h)
    (by decide +kernel) (by decide +kernel) rfl rfl rfl rfl rfl rfl (Nat.le_of_ble_eq_true rfl) (Nat.le_of_ble_eq_true rfl)
    (fun M x N h => e_X10_mendSet 14 (xs (i + 1)).toInt M x N h) (fun M x N h => e_X11_mendSet 14 (xs (i + 1)).toInt M x N h) next
theorem lc_37 (hi : i + 6 ≤ L) (hL : L ≤ 3072) (next : ∀ M, RR M → ∃ M', EvP (lP b L xs) zY 20 m_LAW 1755 (llo (i : Int)) [] M (some (vI 1)) M') : ∀ M, RR M → ∃ M', EvP (lP b L xs) zY 20 m_LAW 1374 (llo (i : Int)) [] M (some (vI 1)) M' :=
  L_caseI (gX := m_X10_cuts) (gM := m_X11_cuts) (vs := [vI (xs (i + 1)).toInt, vI (xs (i + 2)).toInt]) k_X10_cuts k_X11_cuts (a_cuts (xs (i + 1)).toInt (xs (i + 2)).toInt) 1374 1385 1399 175 5044 178 8138 (353) (by decide +kernel)
    (fun M v M' st h => L_args hi hL [1, 2] (by decide +kernel) rfl h) (fun M v M' st h => L_args hi hL [1, 2] (by decide +kernel) rfl h)
    (by decide +kernel) (by decide +kernel) rfl rfl rfl rfl rfl rfl (Nat.le_of_ble_eq_true rfl) (Nat.le_of_ble_eq_true rfl)
    (fun M x N h => e_X10_cuts 15 (xs (i + 1)).toInt (xs (i + 2)).toInt M x N h) (fun M x N h => e_X11_cuts 16 (xs (i + 1)).toInt (xs (i + 2)).toInt M x N h) next
theorem lc_38 (hi : i + 6 ≤ L) (hL : L ≤ 3072) (next : ∀ M, RR M → ∃ M', EvP (lP b L xs) zY 20 m_LAW 1755 (llo (i : Int)) [] M (some (vI 1)) M') : ∀ M, RR M → ∃ M', EvP (lP b L xs) zY 20 m_LAW 1407 (llo (i : Int)) [] M (some (vI 1)) M' :=
  L_caseI (gX := m_X10_cutSet) (gM := m_X11_cutSet) (vs := [vI (xs (i + 1)).toInt, vI (xs (i + 2)).toInt]) k_X10_cutSet k_X11_cutSet (a_cutSet (xs (i + 1)).toInt (xs (i + 2)).toInt) 1407 1418 1432 179 5056 182 8150 (320) (by decide +kernel)
    (fun M v M' st h => L_args hi hL [1, 2] (by decide +kernel) rfl h) (fun M v M' st h => L_args hi hL [1, 2] (by decide +kernel) rfl h)
    (by decide +kernel) (by decide +kernel) rfl rfl rfl rfl rfl rfl (Nat.le_of_ble_eq_true rfl) (Nat.le_of_ble_eq_true rfl)
    (fun M x N h => e_X10_cutSet 15 (xs (i + 1)).toInt (xs (i + 2)).toInt M x N h) (fun M x N h => e_X11_cutSet 16 (xs (i + 1)).toInt (xs (i + 2)).toInt M x N h) next
theorem lc_39 (hi : i + 6 ≤ L) (hL : L ≤ 3072) (next : ∀ M, RR M → ∃ M', EvP (lP b L xs) zY 20 m_LAW 1755 (llo (i : Int)) [] M (some (vI 1)) M') : ∀ M, RR M → ∃ M', EvP (lP b L xs) zY 20 m_LAW 1440 (llo (i : Int)) [] M (some (vI 1)) M' :=
  L_caseI (gX := m_X10_hangs) (gM := m_X11_hangs) (vs := [vI (xs (i + 1)).toInt]) k_X10_hangs k_X11_hangs (a_hangs (xs (i + 1)).toInt) 1440 1446 1455 183 5060 186 8154 (297) (by decide +kernel)
    (fun M v M' st h => L_args hi hL [1] (by decide +kernel) rfl h) (fun M v M' st h => L_args hi hL [1] (by decide +kernel) rfl h)
    (by decide +kernel) (by decide +kernel) rfl rfl rfl rfl rfl rfl (Nat.le_of_ble_eq_true rfl) (Nat.le_of_ble_eq_true rfl)
    (fun M x N h => e_X10_hangs 15 (xs (i + 1)).toInt M x N h) (fun M x N h => e_X11_hangs 14 (xs (i + 1)).toInt M x N h) next
theorem lc_40 (hi : i + 6 ≤ L) (hL : L ≤ 3072) (next : ∀ M, RR M → ∃ M', EvP (lP b L xs) zY 20 m_LAW 1755 (llo (i : Int)) [] M (some (vI 1)) M') : ∀ M, RR M → ∃ M', EvP (lP b L xs) zY 20 m_LAW 1463 (llo (i : Int)) [] M (some (vI 1)) M' :=
  L_caseI (gX := m_X10_vital) (gM := m_X11_vital) (vs := []) k_X10_vital k_X11_vital (a_vital) 1463 1464 1468 187 5073 190 8162 (284) (by decide +kernel)
    (fun M v M' st h => L_args hi hL [] (by decide +kernel) rfl h) (fun M v M' st h => L_args hi hL [] (by decide +kernel) rfl h)
    (by decide +kernel) (by decide +kernel) rfl rfl rfl rfl rfl rfl (Nat.le_of_ble_eq_true rfl) (Nat.le_of_ble_eq_true rfl)
    (fun M x N h => e_X10_vital 13 M x N h) (fun M x N h => e_X11_vital 14 M x N h) next
theorem lc_41 (hi : i + 6 ≤ L) (hL : L ≤ 3072) (next : ∀ M, RR M → ∃ M', EvP (lP b L xs) zY 20 m_LAW 1755 (llo (i : Int)) [] M (some (vI 1)) M') : ∀ M, RR M → ∃ M', EvP (lP b L xs) zY 20 m_LAW 1476 (llo (i : Int)) [] M (some (vI 1)) M' :=
  L_caseI (gX := m_X10_pulled) (gM := m_X11_pulled) (vs := [vI (xs (i + 1)).toInt]) k_X10_pulled k_X11_pulled (a_pulled (xs (i + 1)).toInt) 1476 1482 1491 191 5082 194 8166 (261) (by decide +kernel)
    (fun M v M' st h => L_args hi hL [1] (by decide +kernel) rfl h) (fun M v M' st h => L_args hi hL [1] (by decide +kernel) rfl h)
    (by decide +kernel) (by decide +kernel) rfl rfl rfl rfl rfl rfl (Nat.le_of_ble_eq_true rfl) (Nat.le_of_ble_eq_true rfl)
    (fun M x N h => e_X10_pulled 15 (xs (i + 1)).toInt M x N h) (fun M x N h => e_X11_pulled 16 (xs (i + 1)).toInt M x N h) next
theorem lc_42 (hi : i + 6 ≤ L) (hL : L ≤ 3072) (next : ∀ M, RR M → ∃ M', EvP (lP b L xs) zY 20 m_LAW 1755 (llo (i : Int)) [] M (some (vI 1)) M') : ∀ M, RR M → ∃ M', EvP (lP b L xs) zY 20 m_LAW 1499 (llo (i : Int)) [] M (some (vI 1)) M' :=
  L_caseI (gX := m_X10_crossed) (gM := m_X11_crossed) (vs := [vI (xs (i + 1)).toInt]) k_X10_crossed k_X11_crossed (a_crossed (xs (i + 1)).toInt) 1499 1505 1514 195 5086 198 8170 (238) (by decide +kernel)
    (fun M v M' st h => L_args hi hL [1] (by decide +kernel) rfl h) (fun M v M' st h => L_args hi hL [1] (by decide +kernel) rfl h)
    (by decide +kernel) (by decide +kernel) rfl rfl rfl rfl rfl rfl (Nat.le_of_ble_eq_true rfl) (Nat.le_of_ble_eq_true rfl)
    (fun M x N h => e_X10_crossed 15 (xs (i + 1)).toInt M x N h) (fun M x N h => e_X11_crossed 16 (xs (i + 1)).toInt M x N h) next
theorem lc_43 (hi : i + 6 ≤ L) (hL : L ≤ 3072) (next : ∀ M, RR M → ∃ M', EvP (lP b L xs) zY 20 m_LAW 1755 (llo (i : Int)) [] M (some (vI 1)) M') : ∀ M, RR M → ∃ M', EvP (lP b L xs) zY 20 m_LAW 1522 (llo (i : Int)) [] M (some (vI 1)) M' :=
  L_caseI (gX := m_X10_pair) (gM := m_X11_pair) (vs := [vI (xs (i + 1)).toInt]) k_X10_pair k_X11_pair (a_pair (xs (i + 1)).toInt) 1522 1528 1537 199 5095 202 8174 (215) (by decide +kernel)
    (fun M v M' st h => L_args hi hL [1] (by decide +kernel) rfl h) (fun M v M' st h => L_args hi hL [1] (by decide +kernel) rfl h)
    (by decide +kernel) (by decide +kernel) rfl rfl rfl rfl rfl rfl (Nat.le_of_ble_eq_true rfl) (Nat.le_of_ble_eq_true rfl)
    (fun M x N h => e_X10_pair 13 (xs (i + 1)).toInt M x N h) (fun M x N h => e_X11_pair 14 (xs (i + 1)).toInt M x N h) next
theorem lc_44 (hi : i + 6 ≤ L) (hL : L ≤ 3072) (next : ∀ M, RR M → ∃ M', EvP (lP b L xs) zY 20 m_LAW 1755 (llo (i : Int)) [] M (some (vI 1)) M') : ∀ M, RR M → ∃ M', EvP (lP b L xs) zY 20 m_LAW 1545 (llo (i : Int)) [] M (some (vI 1)) M' :=
  L_caseI (gX := m_X10_swapped) (gM := m_X11_swapped) (vs := []) k_X10_swapped k_X11_swapped (a_swapped) 1545 1546 1550 203 5117 206 8190 (202) (by decide +kernel)
    (fun M v M' st h => L_args hi hL [] (by decide +kernel) rfl h) (fun M v M' st h => L_args hi hL [] (by decide +kernel) rfl h)
    (by decide +kernel) (by decide +kernel) rfl rfl rfl rfl rfl rfl (Nat.le_of_ble_eq_true rfl) (Nat.le_of_ble_eq_true rfl)
    (fun M x N h => e_X10_swapped 13 M x N h) (fun M x N h => e_X11_swapped 14 M x N h) next
theorem lc_45 (hi : i + 6 ≤ L) (hL : L ≤ 3072) (next : ∀ M, RR M → ∃ M', EvP (lP b L xs) zY 20 m_LAW 1755 (llo (i : Int)) [] M (some (vI 1)) M') : ∀ M, RR M → ∃ M', EvP (lP b L xs) zY 20 m_LAW 1558 (llo (i : Int)) [] M (some (vI 1)) M' :=
  L_caseI (gX := m_X10_game) (gM := m_X11_game) (vs := [vI (xs (i + 1)).toInt]) k_X10_game k_X11_game (a_game (xs (i + 1)).toInt) 1558 1564 1573 207 5121 210 8194 (179) (by decide +kernel)
    (fun M v M' st h => L_args hi hL [1] (by decide +kernel) rfl h) (fun M v M' st h => L_args hi hL [1] (by decide +kernel) rfl h)
    (by decide +kernel) (by decide +kernel) rfl rfl rfl rfl rfl rfl (Nat.le_of_ble_eq_true rfl) (Nat.le_of_ble_eq_true rfl)
    (fun M x N h => e_X10_game 3 (xs (i + 1)).toInt M x N h) (fun M x N h => e_X11_game 9 (xs (i + 1)).toInt M x N h) next
theorem lc_46 (hi : i + 6 ≤ L) (hL : L ≤ 3072) (next : ∀ M, RR M → ∃ M', EvP (lP b L xs) zY 20 m_LAW 1755 (llo (i : Int)) [] M (some (vI 1)) M') : ∀ M, RR M → ∃ M', EvP (lP b L xs) zY 20 m_LAW 1581 (llo (i : Int)) [] M (some (vI 1)) M' :=
  L_caseI (gX := m_X10_moveOf) (gM := m_X11_moveOf) (vs := [vI (xs (i + 1)).toInt]) k_X10_moveOf k_X11_moveOf (a_moveOf (xs (i + 1)).toInt) 1581 1587 1596 211 5143 214 8202 (156) (by decide +kernel)
    (fun M v M' st h => L_args hi hL [1] (by decide +kernel) rfl h) (fun M v M' st h => L_args hi hL [1] (by decide +kernel) rfl h)
    (by decide +kernel) (by decide +kernel) rfl rfl rfl rfl rfl rfl (Nat.le_of_ble_eq_true rfl) (Nat.le_of_ble_eq_true rfl)
    (fun M x N h => e_X10_moveOf 3 (xs (i + 1)).toInt M x N h) (fun M x N h => e_X11_moveOf 9 (xs (i + 1)).toInt M x N h) next
theorem lc_47 (hi : i + 6 ≤ L) (hL : L ≤ 3072) (next : ∀ M, RR M → ∃ M', EvP (lP b L xs) zY 20 m_LAW 1755 (llo (i : Int)) [] M (some (vI 1)) M') : ∀ M, RR M → ∃ M', EvP (lP b L xs) zY 20 m_LAW 1604 (llo (i : Int)) [] M (some (vI 1)) M' :=
  L_caseI (gX := m_X10_lasts) (gM := m_X11_lasts) (vs := [vI (xs (i + 1)).toInt]) k_X10_lasts k_X11_lasts (a_lasts (xs (i + 1)).toInt) 1604 1610 1619 215 5147 219 8206 (133) (by decide +kernel)
    (fun M v M' st h => L_args hi hL [1] (by decide +kernel) rfl h) (fun M v M' st h => L_args hi hL [1] (by decide +kernel) rfl h)
    (by decide +kernel) (by decide +kernel) rfl rfl rfl rfl rfl rfl (Nat.le_of_ble_eq_true rfl) (Nat.le_of_ble_eq_true rfl)
    (fun M x N h => e_X10_lasts 16 (xs (i + 1)).toInt M x N h) (fun M x N h => e_X11_lasts 15 (xs (i + 1)).toInt M x N h) next
theorem lc_48 (hi : i + 6 ≤ L) (hL : L ≤ 3072) (next : ∀ M, RR M → ∃ M', EvP (lP b L xs) zY 20 m_LAW 1755 (llo (i : Int)) [] M (some (vI 1)) M') : ∀ M, RR M → ∃ M', EvP (lP b L xs) zY 20 m_LAW 1627 (llo (i : Int)) [] M (some (vI 1)) M' :=
  L_caseI (gX := m_X10_faith) (gM := m_X11_faith) (vs := [vI (xs (i + 1)).toInt]) k_X10_faith k_X11_faith (a_faith (xs (i + 1)).toInt) 1627 1633 1642 220 5166 223 8217 (110) (by decide +kernel)
    (fun M v M' st h => L_args hi hL [1] (by decide +kernel) rfl h) (fun M v M' st h => L_args hi hL [1] (by decide +kernel) rfl h)
    (by decide +kernel) (by decide +kernel) rfl rfl rfl rfl rfl rfl (Nat.le_of_ble_eq_true rfl) (Nat.le_of_ble_eq_true rfl)
    (fun M x N h => e_X10_faith 17 (xs (i + 1)).toInt M x N h) (fun M x N h => e_X11_faith 17 (xs (i + 1)).toInt M x N h) next
theorem lc_49 (hi : i + 6 ≤ L) (hL : L ≤ 3072) (next : ∀ M, RR M → ∃ M', EvP (lP b L xs) zY 20 m_LAW 1755 (llo (i : Int)) [] M (some (vI 1)) M') : ∀ M, RR M → ∃ M', EvP (lP b L xs) zY 20 m_LAW 1650 (llo (i : Int)) [] M (some (vI 1)) M' :=
  L_caseI (gX := m_X10_live) (gM := m_X11_live) (vs := [vI (xs (i + 1)).toInt]) k_X10_live k_X11_live (a_live (xs (i + 1)).toInt) 1650 1656 1665 224 5170 227 8221 (87) (by decide +kernel)
    (fun M v M' st h => L_args hi hL [1] (by decide +kernel) rfl h) (fun M v M' st h => L_args hi hL [1] (by decide +kernel) rfl h)
    (by decide +kernel) (by decide +kernel) rfl rfl rfl rfl rfl rfl (Nat.le_of_ble_eq_true rfl) (Nat.le_of_ble_eq_true rfl)
    (fun M x N h => e_X10_live 12 (xs (i + 1)).toInt M x N h) (fun M x N h => e_X11_live 0 (xs (i + 1)).toInt M x N h) next
theorem lc_50 (hi : i + 6 ≤ L) (hL : L ≤ 3072) (next : ∀ M, RR M → ∃ M', EvP (lP b L xs) zY 20 m_LAW 1755 (llo (i : Int)) [] M (some (vI 1)) M') : ∀ M, RR M → ∃ M', EvP (lP b L xs) zY 20 m_LAW 1673 (llo (i : Int)) [] M (some (vI 1)) M' :=
  L_caseI (gX := m_X10_lived) (gM := m_X11_lived) (vs := [vI (xs (i + 1)).toInt]) k_X10_lived k_X11_lived (a_lived (xs (i + 1)).toInt) 1673 1679 1688 228 5225 231 9027 (64) (by decide +kernel)
    (fun M v M' st h => L_args hi hL [1] (by decide +kernel) rfl h) (fun M v M' st h => L_args hi hL [1] (by decide +kernel) rfl h)
    (by decide +kernel) (by decide +kernel) rfl rfl rfl rfl rfl rfl (Nat.le_of_ble_eq_true rfl) (Nat.le_of_ble_eq_true rfl)
    (fun M x N h => e_X10_lived 18 (xs (i + 1)).toInt M x N h) (fun M x N h => e_X11_lived 18 (xs (i + 1)).toInt M x N h) next
theorem lc_51 (hi : i + 6 ≤ L) (hL : L ≤ 3072) (next : ∀ M, RR M → ∃ M', EvP (lP b L xs) zY 20 m_LAW 1755 (llo (i : Int)) [] M (some (vI 1)) M') : ∀ M, RR M → ∃ M', EvP (lP b L xs) zY 20 m_LAW 1696 (llo (i : Int)) [] M (some (vI 1)) M' :=
  L_caseI (gX := m_X10_mean) (gM := m_X11_mean) (vs := [vI (xs (i + 1)).toInt, vI (xs (i + 2)).toInt]) k_X10_mean k_X11_mean (a_mean (xs (i + 1)).toInt (xs (i + 2)).toInt) 1696 1707 1721 232 5229 235 9031 (31) (by decide +kernel)
    (fun M v M' st h => L_args hi hL [1, 2] (by decide +kernel) rfl h) (fun M v M' st h => L_args hi hL [1, 2] (by decide +kernel) rfl h)
    (by decide +kernel) (by decide +kernel) rfl rfl rfl rfl rfl rfl (Nat.le_of_ble_eq_true rfl) (Nat.le_of_ble_eq_true rfl)
    (fun M x N h => e_X10_mean 12 (xs (i + 1)).toInt (xs (i + 2)).toInt M x N h) (fun M x N h => e_X11_mean 0 (xs (i + 1)).toInt (xs (i + 2)).toInt M x N h) next
theorem lc_52 (hi : i + 6 ≤ L) (hL : L ≤ 3072) (next : ∀ M, RR M → ∃ M', EvP (lP b L xs) zY 20 m_LAW 1755 (llo (i : Int)) [] M (some (vI 1)) M') : ∀ M, RR M → ∃ M', EvP (lP b L xs) zY 20 m_LAW 1729 (llo (i : Int)) [] M (some (vI 1)) M' :=
  L_caseI (gX := m_X10_mark) (gM := m_X11_mark) (vs := []) k_X10_mark k_X11_mark (a_mark) 1729 1730 1734 236 5233 239 9036 (18) (by decide +kernel)
    (fun M v M' st h => L_args hi hL [] (by decide +kernel) rfl h) (fun M v M' st h => L_args hi hL [] (by decide +kernel) rfl h)
    (by decide +kernel) (by decide +kernel) rfl rfl rfl rfl rfl rfl (Nat.le_of_ble_eq_true rfl) (Nat.le_of_ble_eq_true rfl)
    (fun M x N h => e_X10_mark 18 M x N h) (fun M x N h => e_X11_mark 18 M x N h) next
theorem lc_53 (hi : i + 6 ≤ L) (hL : L ≤ 3072) (next : ∀ M, RR M → ∃ M', EvP (lP b L xs) zY 20 m_LAW 1755 (llo (i : Int)) [] M (some (vI 1)) M') : ∀ M, RR M → ∃ M', EvP (lP b L xs) zY 20 m_LAW 1742 (llo (i : Int)) [] M (some (vI 1)) M' :=
  L_caseI (gX := m_X10_back) (gM := m_X11_back) (vs := []) k_X10_back k_X11_back (a_back) 1742 1743 1747 240 5237 243 9040 (5) (by decide +kernel)
    (fun M v M' st h => L_args hi hL [] (by decide +kernel) rfl h) (fun M v M' st h => L_args hi hL [] (by decide +kernel) rfl h)
    (by decide +kernel) (by decide +kernel) rfl rfl rfl rfl rfl rfl (Nat.le_of_ble_eq_true rfl) (Nat.le_of_ble_eq_true rfl)
    (fun M x N h => e_X10_back 18 M x N h) (fun M x N h => e_X11_back 18 M x N h) next
def lpc (k : Nat) : Nat := [264, 277, 291, 305, 348, 421, 455, 518, 581, 604, 627, 650, 673, 706, 739, 762, 785, 824, 847, 870, 903, 936, 979, 1012, 1035, 1068, 1101, 1124, 1147, 1170, 1213, 1226, 1259, 1282, 1305, 1328, 1351, 1374, 1407, 1440, 1463, 1476, 1499, 1522, 1545, 1558, 1581, 1604, 1627, 1650, 1673, 1696, 1729, 1742].getD k 0
theorem l_case (hi : i + 6 ≤ L) (hL : L ≤ 3072) (next : ∀ M, RR M → ∃ M', EvP (lP b L xs) zY 20 m_LAW 1755 (llo (i : Int)) [] M (some (vI 1)) M') : ∀ k : Nat, k < 54 → ∀ M, RR M → ∃ M', EvP (lP b L xs) zY 20 m_LAW (lpc k) (llo (i : Int)) [] M (some (vI 1)) M'
  | 0, _ => lc_0 hi hL next
  | 1, _ => lc_1 hi hL next
  | 2, _ => lc_2 hi hL next
  | 3, _ => lc_3 hi hL next
  | 4, _ => lc_4 hi hL next
  | 5, _ => lc_5 hi hL next
  | 6, _ => lc_6 hi hL next
  | 7, _ => lc_7 hi hL next
  | 8, _ => lc_8 hi hL next
  | 9, _ => lc_9 hi hL next
  | 10, _ => lc_10 hi hL next
  | 11, _ => lc_11 hi hL next
  | 12, _ => lc_12 hi hL next
  | 13, _ => lc_13 hi hL next
  | 14, _ => lc_14 hi hL next
  | 15, _ => lc_15 hi hL next
  | 16, _ => lc_16 hi hL next
  | 17, _ => lc_17 hi hL next
  | 18, _ => lc_18 hi hL next
  | 19, _ => lc_19 hi hL next
  | 20, _ => lc_20 hi hL next
  | 21, _ => lc_21 hi hL next
  | 22, _ => lc_22 hi hL next
  | 23, _ => lc_23 hi hL next
  | 24, _ => lc_24 hi hL next
  | 25, _ => lc_25 hi hL next
  | 26, _ => lc_26 hi hL next
  | 27, _ => lc_27 hi hL next
  | 28, _ => lc_28 hi hL next
  | 29, _ => lc_29 hi hL next
  | 30, _ => lc_30 hi hL next
  | 31, _ => lc_31 hi hL next
  | 32, _ => lc_32 hi hL next
  | 33, _ => lc_33 hi hL next
  | 34, _ => lc_34 hi hL next
  | 35, _ => lc_35 hi hL next
  | 36, _ => lc_36 hi hL next
  | 37, _ => lc_37 hi hL next
  | 38, _ => lc_38 hi hL next
  | 39, _ => lc_39 hi hL next
  | 40, _ => lc_40 hi hL next
  | 41, _ => lc_41 hi hL next
  | 42, _ => lc_42 hi hL next
  | 43, _ => lc_43 hi hL next
  | 44, _ => lc_44 hi hL next
  | 45, _ => lc_45 hi hL next
  | 46, _ => lc_46 hi hL next
  | 47, _ => lc_47 hi hL next
  | 48, _ => lc_48 hi hL next
  | 49, _ => lc_49 hi hL next
  | 50, _ => lc_50 hi hL next
  | 51, _ => lc_51 hi hL next
  | 52, _ => lc_52 hi hL next
  | 53, _ => lc_53 hi hL next
  | n + 54, h => absurd h (by omega)
def l_offs : Array Int := #[231, 244, 258, 272, 315, 388, 422, 485, 548, 571, 594, 617, 640, 673, 706, 729, 752, 791, 814, 837, 870, 903, 946, 979, 1002, 1035, 1068, 1091, 1114, 1137, 1180, 1193, 1226, 1249, 1272, 1295, 1318, 1341, 1374, 1407, 1430, 1443, 1466, 1489, 1512, 1525, 1548, 1571, 1594, 1617, 1640, 1663, 1696, 1709]
end LCases
