/-! single cells of a HOUSE change alike on both sides -/
def cset (c : Nat → Int) (j : Nat) (v : Int) : Nat → Int := fun b => if b = j then v else c b
theorem cset_eq (c : Nat → Int) (j : Nat) (v : Int) : cset c j v j = v := if_pos rfl
theorem cset_ne {c : Nat → Int} {j b : Nat} {v : Int} (h : b ≠ j) : cset c j v b = c b := if_neg h
theorem Rz_cong {c c2 : Nat → Int} {q : Nat} {M N : AM} (h0 : c2 0 = c 0) (hf : fD c2 = fD c) (h1 : N q 19 = M q 19) (h2 : N (q + 10) = M (q + 10)) (h : Rz c q M) : Rz c2 q N := by
  unfold Rz at h ⊢
  rw [h0, hf, h1, h2]
  exact h
theorem Rz_off {c : Nat → Int} {q : Nat} {N : AM} (h : N q 19 = 0) : Rz c q N := Or.inl h
/-- FAR does not look at what is no room, no wire -/
theorem fD_cset {c : Nat → Int} (hI : Ic c) {j : Nat} {v : Int} (h : 1 < j) (h2 : j < 7 ∨ 47 ≤ j) : fD (cset c j v) = fD c := by
  have h1 := hI.2.1
  refine fD_cong (cset_ne (by omega)) (cset_ne (by omega)) (fun w hw => ⟨cset_ne (by omega), cset_ne (by omega), cset_ne (by omega), cset_ne (by omega)⟩)
theorem fD_cset2 {c : Nat → Int} (hI : Ic c) {j : Nat} {v : Int} (h : 27 ≤ j ∧ j < 37) (hh : c (j + 10) = 0) : fD (cset c j v) = fD c := by
  have h1 := hI.2.1
  unfold fD mx1
  rw [cset_ne (by omega), cset_ne (by omega)]
  congr 1
  refine foldl_cong _ _ (fun D w hm => ?_)
  have hm := List.mem_range.mp hm
  unfold mxwire
  rw [cset_ne (c := c) (j := j) (b := 37 + w) (by omega), cset_ne (c := c) (j := j) (b := 7 + w) (by omega), cset_ne (c := c) (j := j) (b := 17 + w) (by omega)]
  by_cases e : j = 27 + w
  · subst e
    have e2 : 27 + w + 10 = 37 + w := by omega
    rw [e2] at hh
    rw [if_pos hh, if_pos hh]
  · rw [cset_ne (c := c) (b := 27 + w) (fun h => e h.symm)]

theorem bits_cong {B : Int} {n : Nat} {f g : Nat → Int} (h : ∀ w, w < n → g w = f w) (hb : bits B n f) : bits B n g := by
  obtain ⟨b, e, h1, h2⟩ := hb
  exact ⟨b, e, h1, fun w hw => by rw [h w hw]; exact h2 w hw⟩
theorem bits_on {B : Int} {n : Nat} {f g : Nat → Int} (hn : n ≤ 10) {k : Nat} (hk : k < n) (h : ∀ w, w < n → w ≠ k → g w = f w) (h1 : g k = 1) (hb : bits B n f) : bits (o_or B (o_shl 1 (k : Int))) n g := by
  obtain ⟨b, rfl, hb1, hb2⟩ := hb
  have hb3 : b < 1024 := Nat.lt_of_lt_of_le hb1 (Nat.pow_le_pow_right (n := 2) (by omega) hn)
  have hp : 2 ^ k < 2 ^ n := Nat.pow_lt_pow_right (by omega) hk
  have hp2 : 2 ^ n ≤ 2 ^ 10 := Nat.pow_le_pow_right (by omega) hn
  refine ⟨b ||| 2 ^ k, ?_, Nat.or_lt_two_pow hb1 hp, fun w hw => ?_⟩
  · rw [o_shl_one' (by omega), o_or_nat (by omega) (by omega)]
  · rw [Nat.testBit_or, Nat.testBit_two_pow]
    by_cases e : w = k
    · subst e; simp [h1]
    · have e2 : ¬ k = w := fun e3 => e e3.symm
      rw [h w hw e, ← hb2 w hw]
      simp [e2]
theorem bits_off {B : Int} {n : Nat} {f g : Nat → Int} (hn : n ≤ 10) {k : Nat} (hk : k < n) (h : ∀ w, w < n → w ≠ k → g w = f w) (h1 : g k = 0) (hb : bits B n f) : bits (o_and B (o_xor (o_shl 1 (k : Int)) (-1))) n g := by
  obtain ⟨b, rfl, hb1, hb2⟩ := hb
  have hb3 : b < 1024 := Nat.lt_of_lt_of_le hb1 (Nat.pow_le_pow_right (n := 2) (by omega) hn)
  have hp : 2 ^ k < 2 ^ n := Nat.pow_lt_pow_right (by omega) hk
  have hp2 : 2 ^ n ≤ 2 ^ 10 := Nat.pow_le_pow_right (by omega) hn
  have ha : b &&& 2 ^ k < 2 ^ n := Nat.lt_of_le_of_lt Nat.and_le_left hb1
  refine ⟨b ^^^ (b &&& 2 ^ k), ?_, Nat.xor_lt_two_pow hb1 ha, fun w hw => ?_⟩
  · rw [o_shl_one' (by omega), o_andn_nat (by omega) (by omega)]
  · rw [Nat.testBit_xor, Nat.testBit_and, Nat.testBit_two_pow]
    by_cases e : w = k
    · subst e
      cases b.testBit w <;> simp [h1]
    · have e2 : ¬ k = w := fun e3 => e e3.symm
      rw [h w hw e, ← hb2 w hw]
      simp [e2]

theorem Rg_power {c : Nat → Int} {q : Nat} {M : AM} (hI : Ib c) (v : Int) (h : Rg c q M) : Rg (cset c 3 v) q (am_upd M q 0 v) := by
  have hc1 := hI.2.1
  have hc2 := hI.2.2
  obtain ⟨⟨r0, r1, r2, r3, r4, r5, r6⟩, hw, hk, hb, hb2⟩ := h
  refine ⟨⟨?_, ?_, ?_, ?_, ?_, ?_, ?_⟩, fun w hw2 => ?_, fun e he => ?_, ?_, ?_⟩
  · rw [am_upd_self, cset_eq]
  · rw [am_upd_ne (by omega), cset_ne (by decide)]; exact r1
  · rw [am_upd_ne (by omega), cset_ne (by decide)]; exact r2
  · rw [am_upd_ne (by omega), cset_ne (by decide)]; exact r3
  · rw [am_upd_ne (by omega), cset_ne (by decide)]; exact r4
  · rw [am_upd_ne (by omega), cset_ne (by decide)]; exact r5
  · rw [am_upd_ne (by omega), cset_ne (by decide)]; exact r6
  · rw [cset_ne (by decide)] at hw2
    rw [am_upd_cell (by omega), am_upd_cell (by omega), am_upd_cell (by omega), cset_ne (by omega), cset_ne (by omega), cset_ne (by omega)]; exact hw w hw2
  · rw [cset_ne (by decide)] at he
    rw [am_upd_cell (by omega), am_upd_cell (by omega), am_upd_cell (by omega), am_upd_cell (by omega), am_upd_cell (by omega), cset_ne (by omega), cset_ne (by omega), cset_ne (by omega), cset_ne (by omega), cset_ne (by omega)]; exact hk e he
  · rw [am_upd_ne (by omega), cset_ne (b := 1) (by decide)]; exact bits_cong (fun w hw => cset_ne (by omega)) hb
  · rw [am_upd_ne (by omega), cset_ne (b := 2) (by decide)]; exact bits_cong (fun w hw => cset_ne (by omega)) hb2
theorem Rg_odds {c : Nat → Int} {q : Nat} {M : AM} (hI : Ib c) (v : Int) (h : Rg c q M) : Rg (cset c 4 v) q (am_upd M q 1 v) := by
  have hc1 := hI.2.1
  have hc2 := hI.2.2
  obtain ⟨⟨r0, r1, r2, r3, r4, r5, r6⟩, hw, hk, hb, hb2⟩ := h
  refine ⟨⟨?_, ?_, ?_, ?_, ?_, ?_, ?_⟩, fun w hw2 => ?_, fun e he => ?_, ?_, ?_⟩
  · rw [am_upd_ne (by omega), cset_ne (by decide)]; exact r0
  · rw [am_upd_self, cset_eq]
  · rw [am_upd_ne (by omega), cset_ne (by decide)]; exact r2
  · rw [am_upd_ne (by omega), cset_ne (by decide)]; exact r3
  · rw [am_upd_ne (by omega), cset_ne (by decide)]; exact r4
  · rw [am_upd_ne (by omega), cset_ne (by decide)]; exact r5
  · rw [am_upd_ne (by omega), cset_ne (by decide)]; exact r6
  · rw [cset_ne (by decide)] at hw2
    rw [am_upd_cell (by omega), am_upd_cell (by omega), am_upd_cell (by omega), cset_ne (by omega), cset_ne (by omega), cset_ne (by omega)]; exact hw w hw2
  · rw [cset_ne (by decide)] at he
    rw [am_upd_cell (by omega), am_upd_cell (by omega), am_upd_cell (by omega), am_upd_cell (by omega), am_upd_cell (by omega), cset_ne (by omega), cset_ne (by omega), cset_ne (by omega), cset_ne (by omega), cset_ne (by omega)]; exact hk e he
  · rw [am_upd_ne (by omega), cset_ne (b := 1) (by decide)]; exact bits_cong (fun w hw => cset_ne (by omega)) hb
  · rw [am_upd_ne (by omega), cset_ne (b := 2) (by decide)]; exact bits_cong (fun w hw => cset_ne (by omega)) hb2
theorem Rg_day {c : Nat → Int} {q : Nat} {M : AM} (hI : Ib c) (v : Int) (h : Rg c q M) : Rg (cset c 5 v) q (am_upd M q 5 v) := by
  have hc1 := hI.2.1
  have hc2 := hI.2.2
  obtain ⟨⟨r0, r1, r2, r3, r4, r5, r6⟩, hw, hk, hb, hb2⟩ := h
  refine ⟨⟨?_, ?_, ?_, ?_, ?_, ?_, ?_⟩, fun w hw2 => ?_, fun e he => ?_, ?_, ?_⟩
  · rw [am_upd_ne (by omega), cset_ne (by decide)]; exact r0
  · rw [am_upd_ne (by omega), cset_ne (by decide)]; exact r1
  · rw [am_upd_ne (by omega), cset_ne (by decide)]; exact r2
  · rw [am_upd_ne (by omega), cset_ne (by decide)]; exact r3
  · rw [am_upd_ne (by omega), cset_ne (by decide)]; exact r4
  · rw [am_upd_self, cset_eq]
  · rw [am_upd_ne (by omega), cset_ne (by decide)]; exact r6
  · rw [cset_ne (by decide)] at hw2
    rw [am_upd_cell (by omega), am_upd_cell (by omega), am_upd_cell (by omega), cset_ne (by omega), cset_ne (by omega), cset_ne (by omega)]; exact hw w hw2
  · rw [cset_ne (by decide)] at he
    rw [am_upd_cell (by omega), am_upd_cell (by omega), am_upd_cell (by omega), am_upd_cell (by omega), am_upd_cell (by omega), cset_ne (by omega), cset_ne (by omega), cset_ne (by omega), cset_ne (by omega), cset_ne (by omega)]; exact hk e he
  · rw [am_upd_ne (by omega), cset_ne (b := 1) (by decide)]; exact bits_cong (fun w hw => cset_ne (by omega)) hb
  · rw [am_upd_ne (by omega), cset_ne (b := 2) (by decide)]; exact bits_cong (fun w hw => cset_ne (by omega)) hb2
theorem Rg_damp {c : Nat → Int} {q : Nat} {M : AM} (hI : Ib c) (v : Int) (h : Rg c q M) : Rg (cset c 6 v) q (am_upd M q 6 v) := by
  have hc1 := hI.2.1
  have hc2 := hI.2.2
  obtain ⟨⟨r0, r1, r2, r3, r4, r5, r6⟩, hw, hk, hb, hb2⟩ := h
  refine ⟨⟨?_, ?_, ?_, ?_, ?_, ?_, ?_⟩, fun w hw2 => ?_, fun e he => ?_, ?_, ?_⟩
  · rw [am_upd_ne (by omega), cset_ne (by decide)]; exact r0
  · rw [am_upd_ne (by omega), cset_ne (by decide)]; exact r1
  · rw [am_upd_ne (by omega), cset_ne (by decide)]; exact r2
  · rw [am_upd_ne (by omega), cset_ne (by decide)]; exact r3
  · rw [am_upd_ne (by omega), cset_ne (by decide)]; exact r4
  · rw [am_upd_ne (by omega), cset_ne (by decide)]; exact r5
  · rw [am_upd_self, cset_eq]
  · rw [cset_ne (by decide)] at hw2
    rw [am_upd_cell (by omega), am_upd_cell (by omega), am_upd_cell (by omega), cset_ne (by omega), cset_ne (by omega), cset_ne (by omega)]; exact hw w hw2
  · rw [cset_ne (by decide)] at he
    rw [am_upd_cell (by omega), am_upd_cell (by omega), am_upd_cell (by omega), am_upd_cell (by omega), am_upd_cell (by omega), cset_ne (by omega), cset_ne (by omega), cset_ne (by omega), cset_ne (by omega), cset_ne (by omega)]; exact hk e he
  · rw [am_upd_ne (by omega), cset_ne (b := 1) (by decide)]; exact bits_cong (fun w hw => cset_ne (by omega)) hb
  · rw [am_upd_ne (by omega), cset_ne (b := 2) (by decide)]; exact bits_cong (fun w hw => cset_ne (by omega)) hb2
theorem Rg_from {c : Nat → Int} {q : Nat} {M : AM} (hI : Ib c) {i : Nat} (hi : (i : Int) < c 1) (v : Int) (h : Rg c q M) : Rg (cset c (7 + i) v) q (am_upd M (q + 1) i v) := by
  have hc1 := hI.2.1
  have hc2 := hI.2.2
  obtain ⟨⟨r0, r1, r2, r3, r4, r5, r6⟩, hw, hk, hb, hb2⟩ := h
  refine ⟨⟨?_, ?_, ?_, ?_, ?_, ?_, ?_⟩, fun w hw2 => ?_, fun e he => ?_, ?_, ?_⟩
  · rw [am_upd_cell (by omega), cset_ne (by omega)]; exact r0
  · rw [am_upd_cell (by omega), cset_ne (by omega)]; exact r1
  · rw [am_upd_cell (by omega), cset_ne (by omega)]; exact r2
  · rw [am_upd_cell (by omega), cset_ne (by omega)]; exact r3
  · rw [am_upd_cell (by omega), cset_ne (by omega)]; exact r4
  · rw [am_upd_cell (by omega), cset_ne (by omega)]; exact r5
  · rw [am_upd_cell (by omega), cset_ne (by omega)]; exact r6
  · rw [cset_ne (by omega)] at hw2
    obtain ⟨h1, h2, h3⟩ := hw w hw2
    refine ⟨?_, ?_, ?_⟩
    · by_cases e : w = i
      · subst e; rw [am_upd_self, cset_eq]
      · rw [am_upd_ne (fun h => e h.2), cset_ne (by omega)]; exact h1
    · rw [am_upd_cell (by omega), cset_ne (by omega)]; exact h2
    · rw [am_upd_cell (by omega), cset_ne (by omega)]; exact h3
  · rw [cset_ne (by omega)] at he
    obtain ⟨h1, h2, h3, h4, h5⟩ := hk e he
    rw [am_upd_cell (by omega), am_upd_cell (by omega), am_upd_cell (by omega), am_upd_cell (by omega), am_upd_cell (by omega), cset_ne (by omega), cset_ne (by omega), cset_ne (by omega), cset_ne (by omega), cset_ne (by omega)]; exact ⟨h1, h2, h3, h4, h5⟩
  · rw [am_upd_cell (by omega), cset_ne (b := 1) (by omega)]; exact bits_cong (fun w hw => cset_ne (by omega)) hb
  · rw [am_upd_cell (by omega), cset_ne (b := 2) (by omega)]; exact bits_cong (fun w hw => cset_ne (by omega)) hb2
theorem Rg_to {c : Nat → Int} {q : Nat} {M : AM} (hI : Ib c) {i : Nat} (hi : (i : Int) < c 1) (v : Int) (h : Rg c q M) : Rg (cset c (17 + i) v) q (am_upd M (q + 2) i v) := by
  have hc1 := hI.2.1
  have hc2 := hI.2.2
  obtain ⟨⟨r0, r1, r2, r3, r4, r5, r6⟩, hw, hk, hb, hb2⟩ := h
  refine ⟨⟨?_, ?_, ?_, ?_, ?_, ?_, ?_⟩, fun w hw2 => ?_, fun e he => ?_, ?_, ?_⟩
  · rw [am_upd_cell (by omega), cset_ne (by omega)]; exact r0
  · rw [am_upd_cell (by omega), cset_ne (by omega)]; exact r1
  · rw [am_upd_cell (by omega), cset_ne (by omega)]; exact r2
  · rw [am_upd_cell (by omega), cset_ne (by omega)]; exact r3
  · rw [am_upd_cell (by omega), cset_ne (by omega)]; exact r4
  · rw [am_upd_cell (by omega), cset_ne (by omega)]; exact r5
  · rw [am_upd_cell (by omega), cset_ne (by omega)]; exact r6
  · rw [cset_ne (by omega)] at hw2
    obtain ⟨h1, h2, h3⟩ := hw w hw2
    refine ⟨?_, ?_, ?_⟩
    · rw [am_upd_cell (by omega), cset_ne (by omega)]; exact h1
    · by_cases e : w = i
      · subst e; rw [am_upd_self, cset_eq]
      · rw [am_upd_ne (fun h => e h.2), cset_ne (by omega)]; exact h2
    · rw [am_upd_cell (by omega), cset_ne (by omega)]; exact h3
  · rw [cset_ne (by omega)] at he
    obtain ⟨h1, h2, h3, h4, h5⟩ := hk e he
    rw [am_upd_cell (by omega), am_upd_cell (by omega), am_upd_cell (by omega), am_upd_cell (by omega), am_upd_cell (by omega), cset_ne (by omega), cset_ne (by omega), cset_ne (by omega), cset_ne (by omega), cset_ne (by omega)]; exact ⟨h1, h2, h3, h4, h5⟩
  · rw [am_upd_cell (by omega), cset_ne (b := 1) (by omega)]; exact bits_cong (fun w hw => cset_ne (by omega)) hb
  · rw [am_upd_cell (by omega), cset_ne (b := 2) (by omega)]; exact bits_cong (fun w hw => cset_ne (by omega)) hb2
theorem Rg_slack {c : Nat → Int} {q : Nat} {M : AM} (hI : Ib c) {i : Nat} (hi : (i : Int) < c 1) (v : Int) (h : Rg c q M) : Rg (cset c (27 + i) v) q (am_upd M (q + 3) i v) := by
  have hc1 := hI.2.1
  have hc2 := hI.2.2
  obtain ⟨⟨r0, r1, r2, r3, r4, r5, r6⟩, hw, hk, hb, hb2⟩ := h
  refine ⟨⟨?_, ?_, ?_, ?_, ?_, ?_, ?_⟩, fun w hw2 => ?_, fun e he => ?_, ?_, ?_⟩
  · rw [am_upd_cell (by omega), cset_ne (by omega)]; exact r0
  · rw [am_upd_cell (by omega), cset_ne (by omega)]; exact r1
  · rw [am_upd_cell (by omega), cset_ne (by omega)]; exact r2
  · rw [am_upd_cell (by omega), cset_ne (by omega)]; exact r3
  · rw [am_upd_cell (by omega), cset_ne (by omega)]; exact r4
  · rw [am_upd_cell (by omega), cset_ne (by omega)]; exact r5
  · rw [am_upd_cell (by omega), cset_ne (by omega)]; exact r6
  · rw [cset_ne (by omega)] at hw2
    obtain ⟨h1, h2, h3⟩ := hw w hw2
    refine ⟨?_, ?_, ?_⟩
    · rw [am_upd_cell (by omega), cset_ne (by omega)]; exact h1
    · rw [am_upd_cell (by omega), cset_ne (by omega)]; exact h2
    · by_cases e : w = i
      · subst e; rw [am_upd_self, cset_eq]
      · rw [am_upd_ne (fun h => e h.2), cset_ne (by omega)]; exact h3
  · rw [cset_ne (by omega)] at he
    obtain ⟨h1, h2, h3, h4, h5⟩ := hk e he
    rw [am_upd_cell (by omega), am_upd_cell (by omega), am_upd_cell (by omega), am_upd_cell (by omega), am_upd_cell (by omega), cset_ne (by omega), cset_ne (by omega), cset_ne (by omega), cset_ne (by omega), cset_ne (by omega)]; exact ⟨h1, h2, h3, h4, h5⟩
  · rw [am_upd_cell (by omega), cset_ne (b := 1) (by omega)]; exact bits_cong (fun w hw => cset_ne (by omega)) hb
  · rw [am_upd_cell (by omega), cset_ne (b := 2) (by omega)]; exact bits_cong (fun w hw => cset_ne (by omega)) hb2
theorem Rg_he {c : Nat → Int} {q : Nat} {M : AM} (hI : Ib c) {i : Nat} (hi : (i : Int) < c 2) (v : Int) (h : Rg c q M) : Rg (cset c (47 + i) v) q (am_upd M (q + 4) i v) := by
  have hc1 := hI.2.1
  have hc2 := hI.2.2
  obtain ⟨⟨r0, r1, r2, r3, r4, r5, r6⟩, hw, hk, hb, hb2⟩ := h
  refine ⟨⟨?_, ?_, ?_, ?_, ?_, ?_, ?_⟩, fun w hw2 => ?_, fun e he => ?_, ?_, ?_⟩
  · rw [am_upd_cell (by omega), cset_ne (by omega)]; exact r0
  · rw [am_upd_cell (by omega), cset_ne (by omega)]; exact r1
  · rw [am_upd_cell (by omega), cset_ne (by omega)]; exact r2
  · rw [am_upd_cell (by omega), cset_ne (by omega)]; exact r3
  · rw [am_upd_cell (by omega), cset_ne (by omega)]; exact r4
  · rw [am_upd_cell (by omega), cset_ne (by omega)]; exact r5
  · rw [am_upd_cell (by omega), cset_ne (by omega)]; exact r6
  · rw [cset_ne (by omega)] at hw2
    obtain ⟨h1, h2, h3⟩ := hw w hw2
    rw [am_upd_cell (by omega), am_upd_cell (by omega), am_upd_cell (by omega), cset_ne (by omega), cset_ne (by omega), cset_ne (by omega)]; exact ⟨h1, h2, h3⟩
  · rw [cset_ne (by omega)] at he
    obtain ⟨h1, h2, h3, h4, h5⟩ := hk e he
    refine ⟨?_, ?_, ?_, ?_, ?_⟩
    · by_cases e2 : e = i
      · subst e2; rw [am_upd_self, cset_eq]
      · rw [am_upd_ne (fun h => e2 h.2), cset_ne (by omega)]; exact h1
    · rw [am_upd_cell (by omega), cset_ne (by omega)]; exact h2
    · rw [am_upd_cell (by omega), cset_ne (by omega)]; exact h3
    · rw [am_upd_cell (by omega), cset_ne (by omega)]; exact h4
    · rw [am_upd_cell (by omega), cset_ne (by omega)]; exact h5
  · rw [am_upd_cell (by omega), cset_ne (b := 1) (by omega)]; exact bits_cong (fun w hw => cset_ne (by omega)) hb
  · rw [am_upd_cell (by omega), cset_ne (b := 2) (by omega)]; exact bits_cong (fun w hw => cset_ne (by omega)) hb2
theorem Rg_she {c : Nat → Int} {q : Nat} {M : AM} (hI : Ib c) {i : Nat} (hi : (i : Int) < c 2) (v : Int) (h : Rg c q M) : Rg (cset c (53 + i) v) q (am_upd M (q + 5) i v) := by
  have hc1 := hI.2.1
  have hc2 := hI.2.2
  obtain ⟨⟨r0, r1, r2, r3, r4, r5, r6⟩, hw, hk, hb, hb2⟩ := h
  refine ⟨⟨?_, ?_, ?_, ?_, ?_, ?_, ?_⟩, fun w hw2 => ?_, fun e he => ?_, ?_, ?_⟩
  · rw [am_upd_cell (by omega), cset_ne (by omega)]; exact r0
  · rw [am_upd_cell (by omega), cset_ne (by omega)]; exact r1
  · rw [am_upd_cell (by omega), cset_ne (by omega)]; exact r2
  · rw [am_upd_cell (by omega), cset_ne (by omega)]; exact r3
  · rw [am_upd_cell (by omega), cset_ne (by omega)]; exact r4
  · rw [am_upd_cell (by omega), cset_ne (by omega)]; exact r5
  · rw [am_upd_cell (by omega), cset_ne (by omega)]; exact r6
  · rw [cset_ne (by omega)] at hw2
    obtain ⟨h1, h2, h3⟩ := hw w hw2
    rw [am_upd_cell (by omega), am_upd_cell (by omega), am_upd_cell (by omega), cset_ne (by omega), cset_ne (by omega), cset_ne (by omega)]; exact ⟨h1, h2, h3⟩
  · rw [cset_ne (by omega)] at he
    obtain ⟨h1, h2, h3, h4, h5⟩ := hk e he
    refine ⟨?_, ?_, ?_, ?_, ?_⟩
    · rw [am_upd_cell (by omega), cset_ne (by omega)]; exact h1
    · by_cases e2 : e = i
      · subst e2; rw [am_upd_self, cset_eq]
      · rw [am_upd_ne (fun h => e2 h.2), cset_ne (by omega)]; exact h2
    · rw [am_upd_cell (by omega), cset_ne (by omega)]; exact h3
    · rw [am_upd_cell (by omega), cset_ne (by omega)]; exact h4
    · rw [am_upd_cell (by omega), cset_ne (by omega)]; exact h5
  · rw [am_upd_cell (by omega), cset_ne (b := 1) (by omega)]; exact bits_cong (fun w hw => cset_ne (by omega)) hb
  · rw [am_upd_cell (by omega), cset_ne (b := 2) (by omega)]; exact bits_cong (fun w hw => cset_ne (by omega)) hb2
theorem Rg_love {c : Nat → Int} {q : Nat} {M : AM} (hI : Ib c) {i : Nat} (hi : (i : Int) < c 2) (v : Int) (h : Rg c q M) : Rg (cset c (59 + i) v) q (am_upd M (q + 6) i v) := by
  have hc1 := hI.2.1
  have hc2 := hI.2.2
  obtain ⟨⟨r0, r1, r2, r3, r4, r5, r6⟩, hw, hk, hb, hb2⟩ := h
  refine ⟨⟨?_, ?_, ?_, ?_, ?_, ?_, ?_⟩, fun w hw2 => ?_, fun e he => ?_, ?_, ?_⟩
  · rw [am_upd_cell (by omega), cset_ne (by omega)]; exact r0
  · rw [am_upd_cell (by omega), cset_ne (by omega)]; exact r1
  · rw [am_upd_cell (by omega), cset_ne (by omega)]; exact r2
  · rw [am_upd_cell (by omega), cset_ne (by omega)]; exact r3
  · rw [am_upd_cell (by omega), cset_ne (by omega)]; exact r4
  · rw [am_upd_cell (by omega), cset_ne (by omega)]; exact r5
  · rw [am_upd_cell (by omega), cset_ne (by omega)]; exact r6
  · rw [cset_ne (by omega)] at hw2
    obtain ⟨h1, h2, h3⟩ := hw w hw2
    rw [am_upd_cell (by omega), am_upd_cell (by omega), am_upd_cell (by omega), cset_ne (by omega), cset_ne (by omega), cset_ne (by omega)]; exact ⟨h1, h2, h3⟩
  · rw [cset_ne (by omega)] at he
    obtain ⟨h1, h2, h3, h4, h5⟩ := hk e he
    refine ⟨?_, ?_, ?_, ?_, ?_⟩
    · rw [am_upd_cell (by omega), cset_ne (by omega)]; exact h1
    · rw [am_upd_cell (by omega), cset_ne (by omega)]; exact h2
    · by_cases e2 : e = i
      · subst e2; rw [am_upd_self, cset_eq]
      · rw [am_upd_ne (fun h => e2 h.2), cset_ne (by omega)]; exact h3
    · rw [am_upd_cell (by omega), cset_ne (by omega)]; exact h4
    · rw [am_upd_cell (by omega), cset_ne (by omega)]; exact h5
  · rw [am_upd_cell (by omega), cset_ne (b := 1) (by omega)]; exact bits_cong (fun w hw => cset_ne (by omega)) hb
  · rw [am_upd_cell (by omega), cset_ne (b := 2) (by omega)]; exact bits_cong (fun w hw => cset_ne (by omega)) hb2
theorem Rg_own {c : Nat → Int} {q : Nat} {M : AM} (hI : Ib c) {i : Nat} (hi : (i : Int) < c 2) (v : Int) (h : Rg c q M) : Rg (cset c (71 + i) v) q (am_upd M (q + 7) i v) := by
  have hc1 := hI.2.1
  have hc2 := hI.2.2
  obtain ⟨⟨r0, r1, r2, r3, r4, r5, r6⟩, hw, hk, hb, hb2⟩ := h
  refine ⟨⟨?_, ?_, ?_, ?_, ?_, ?_, ?_⟩, fun w hw2 => ?_, fun e he => ?_, ?_, ?_⟩
  · rw [am_upd_cell (by omega), cset_ne (by omega)]; exact r0
  · rw [am_upd_cell (by omega), cset_ne (by omega)]; exact r1
  · rw [am_upd_cell (by omega), cset_ne (by omega)]; exact r2
  · rw [am_upd_cell (by omega), cset_ne (by omega)]; exact r3
  · rw [am_upd_cell (by omega), cset_ne (by omega)]; exact r4
  · rw [am_upd_cell (by omega), cset_ne (by omega)]; exact r5
  · rw [am_upd_cell (by omega), cset_ne (by omega)]; exact r6
  · rw [cset_ne (by omega)] at hw2
    obtain ⟨h1, h2, h3⟩ := hw w hw2
    rw [am_upd_cell (by omega), am_upd_cell (by omega), am_upd_cell (by omega), cset_ne (by omega), cset_ne (by omega), cset_ne (by omega)]; exact ⟨h1, h2, h3⟩
  · rw [cset_ne (by omega)] at he
    obtain ⟨h1, h2, h3, h4, h5⟩ := hk e he
    refine ⟨?_, ?_, ?_, ?_, ?_⟩
    · rw [am_upd_cell (by omega), cset_ne (by omega)]; exact h1
    · rw [am_upd_cell (by omega), cset_ne (by omega)]; exact h2
    · rw [am_upd_cell (by omega), cset_ne (by omega)]; exact h3
    · by_cases e2 : e = i
      · subst e2; rw [am_upd_self, cset_eq]
      · rw [am_upd_ne (fun h => e2 h.2), cset_ne (by omega)]; exact h4
    · rw [am_upd_cell (by omega), cset_ne (by omega)]; exact h5
  · rw [am_upd_cell (by omega), cset_ne (b := 1) (by omega)]; exact bits_cong (fun w hw => cset_ne (by omega)) hb
  · rw [am_upd_cell (by omega), cset_ne (b := 2) (by omega)]; exact bits_cong (fun w hw => cset_ne (by omega)) hb2
theorem Rg_oth {c : Nat → Int} {q : Nat} {M : AM} (hI : Ib c) {i : Nat} (hi : (i : Int) < c 2) (v : Int) (h : Rg c q M) : Rg (cset c (77 + i) v) q (am_upd M (q + 8) i v) := by
  have hc1 := hI.2.1
  have hc2 := hI.2.2
  obtain ⟨⟨r0, r1, r2, r3, r4, r5, r6⟩, hw, hk, hb, hb2⟩ := h
  refine ⟨⟨?_, ?_, ?_, ?_, ?_, ?_, ?_⟩, fun w hw2 => ?_, fun e he => ?_, ?_, ?_⟩
  · rw [am_upd_cell (by omega), cset_ne (by omega)]; exact r0
  · rw [am_upd_cell (by omega), cset_ne (by omega)]; exact r1
  · rw [am_upd_cell (by omega), cset_ne (by omega)]; exact r2
  · rw [am_upd_cell (by omega), cset_ne (by omega)]; exact r3
  · rw [am_upd_cell (by omega), cset_ne (by omega)]; exact r4
  · rw [am_upd_cell (by omega), cset_ne (by omega)]; exact r5
  · rw [am_upd_cell (by omega), cset_ne (by omega)]; exact r6
  · rw [cset_ne (by omega)] at hw2
    obtain ⟨h1, h2, h3⟩ := hw w hw2
    rw [am_upd_cell (by omega), am_upd_cell (by omega), am_upd_cell (by omega), cset_ne (by omega), cset_ne (by omega), cset_ne (by omega)]; exact ⟨h1, h2, h3⟩
  · rw [cset_ne (by omega)] at he
    obtain ⟨h1, h2, h3, h4, h5⟩ := hk e he
    refine ⟨?_, ?_, ?_, ?_, ?_⟩
    · rw [am_upd_cell (by omega), cset_ne (by omega)]; exact h1
    · rw [am_upd_cell (by omega), cset_ne (by omega)]; exact h2
    · rw [am_upd_cell (by omega), cset_ne (by omega)]; exact h3
    · rw [am_upd_cell (by omega), cset_ne (by omega)]; exact h4
    · by_cases e2 : e = i
      · subst e2; rw [am_upd_self, cset_eq]
      · rw [am_upd_ne (fun h => e2 h.2), cset_ne (by omega)]; exact h5
  · rw [am_upd_cell (by omega), cset_ne (b := 1) (by omega)]; exact bits_cong (fun w hw => cset_ne (by omega)) hb
  · rw [am_upd_cell (by omega), cset_ne (b := 2) (by omega)]; exact bits_cong (fun w hw => cset_ne (by omega)) hb2
theorem Rg_wholeOn {c : Nat → Int} {q : Nat} {M : AM} (hI : Ib c) {i : Nat} (hi : (i : Int) < c 1) (h : Rg c q M) : Rg (cset c (37 + i) 1) q (am_upd M q 7 (o_or (M q 7) (o_shl 1 (i : Int)))) := by
  have hc1 := hI.2.1
  have hc2 := hI.2.2
  obtain ⟨⟨r0, r1, r2, r3, r4, r5, r6⟩, hw, hk, hb, hb2⟩ := h
  refine ⟨⟨?_, ?_, ?_, ?_, ?_, ?_, ?_⟩, fun w hw2 => ?_, fun e he => ?_, ?_, ?_⟩
  · rw [am_upd_ne (by omega), cset_ne (by omega)]; exact r0
  · rw [am_upd_ne (by omega), cset_ne (by omega)]; exact r1
  · rw [am_upd_ne (by omega), cset_ne (by omega)]; exact r2
  · rw [am_upd_ne (by omega), cset_ne (by omega)]; exact r3
  · rw [am_upd_ne (by omega), cset_ne (by omega)]; exact r4
  · rw [am_upd_ne (by omega), cset_ne (by omega)]; exact r5
  · rw [am_upd_ne (by omega), cset_ne (by omega)]; exact r6
  · rw [cset_ne (by omega)] at hw2
    rw [am_upd_cell (by omega), am_upd_cell (by omega), am_upd_cell (by omega), cset_ne (by omega), cset_ne (by omega), cset_ne (by omega)]; exact hw w hw2
  · rw [cset_ne (by omega)] at he
    rw [am_upd_cell (by omega), am_upd_cell (by omega), am_upd_cell (by omega), am_upd_cell (by omega), am_upd_cell (by omega), cset_ne (by omega), cset_ne (by omega), cset_ne (by omega), cset_ne (by omega), cset_ne (by omega)]; exact hk e he
  · rw [am_upd_self, cset_ne (b := 1) (by omega)]; exact bits_on (by omega) (by omega) (fun w hw hne => cset_ne (by omega)) (cset_eq _ _ _) hb
  · rw [am_upd_ne (by omega), cset_ne (b := 2) (by omega)]; exact bits_cong (fun w hw => cset_ne (by omega)) hb2
theorem Rg_wholeOff {c : Nat → Int} {q : Nat} {M : AM} (hI : Ib c) {i : Nat} (hi : (i : Int) < c 1) (h : Rg c q M) : Rg (cset c (37 + i) 0) q (am_upd M q 7 (o_and (M q 7) (o_xor (o_shl 1 (i : Int)) (-1)))) := by
  have hc1 := hI.2.1
  have hc2 := hI.2.2
  obtain ⟨⟨r0, r1, r2, r3, r4, r5, r6⟩, hw, hk, hb, hb2⟩ := h
  refine ⟨⟨?_, ?_, ?_, ?_, ?_, ?_, ?_⟩, fun w hw2 => ?_, fun e he => ?_, ?_, ?_⟩
  · rw [am_upd_ne (by omega), cset_ne (by omega)]; exact r0
  · rw [am_upd_ne (by omega), cset_ne (by omega)]; exact r1
  · rw [am_upd_ne (by omega), cset_ne (by omega)]; exact r2
  · rw [am_upd_ne (by omega), cset_ne (by omega)]; exact r3
  · rw [am_upd_ne (by omega), cset_ne (by omega)]; exact r4
  · rw [am_upd_ne (by omega), cset_ne (by omega)]; exact r5
  · rw [am_upd_ne (by omega), cset_ne (by omega)]; exact r6
  · rw [cset_ne (by omega)] at hw2
    rw [am_upd_cell (by omega), am_upd_cell (by omega), am_upd_cell (by omega), cset_ne (by omega), cset_ne (by omega), cset_ne (by omega)]; exact hw w hw2
  · rw [cset_ne (by omega)] at he
    rw [am_upd_cell (by omega), am_upd_cell (by omega), am_upd_cell (by omega), am_upd_cell (by omega), am_upd_cell (by omega), cset_ne (by omega), cset_ne (by omega), cset_ne (by omega), cset_ne (by omega), cset_ne (by omega)]; exact hk e he
  · rw [am_upd_self, cset_ne (b := 1) (by omega)]; exact bits_off (by omega) (by omega) (fun w hw hne => cset_ne (by omega)) (cset_eq _ _ _) hb
  · rw [am_upd_ne (by omega), cset_ne (b := 2) (by omega)]; exact bits_cong (fun w hw => cset_ne (by omega)) hb2
theorem Rg_holdOn {c : Nat → Int} {q : Nat} {M : AM} (hI : Ib c) {i : Nat} (hi : (i : Int) < c 2) (h : Rg c q M) : Rg (cset c (65 + i) 1) q (am_upd M q 8 (o_or (M q 8) (o_shl 1 (i : Int)))) := by
  have hc1 := hI.2.1
  have hc2 := hI.2.2
  obtain ⟨⟨r0, r1, r2, r3, r4, r5, r6⟩, hw, hk, hb, hb2⟩ := h
  refine ⟨⟨?_, ?_, ?_, ?_, ?_, ?_, ?_⟩, fun w hw2 => ?_, fun e he => ?_, ?_, ?_⟩
  · rw [am_upd_ne (by omega), cset_ne (by omega)]; exact r0
  · rw [am_upd_ne (by omega), cset_ne (by omega)]; exact r1
  · rw [am_upd_ne (by omega), cset_ne (by omega)]; exact r2
  · rw [am_upd_ne (by omega), cset_ne (by omega)]; exact r3
  · rw [am_upd_ne (by omega), cset_ne (by omega)]; exact r4
  · rw [am_upd_ne (by omega), cset_ne (by omega)]; exact r5
  · rw [am_upd_ne (by omega), cset_ne (by omega)]; exact r6
  · rw [cset_ne (by omega)] at hw2
    rw [am_upd_cell (by omega), am_upd_cell (by omega), am_upd_cell (by omega), cset_ne (by omega), cset_ne (by omega), cset_ne (by omega)]; exact hw w hw2
  · rw [cset_ne (by omega)] at he
    rw [am_upd_cell (by omega), am_upd_cell (by omega), am_upd_cell (by omega), am_upd_cell (by omega), am_upd_cell (by omega), cset_ne (by omega), cset_ne (by omega), cset_ne (by omega), cset_ne (by omega), cset_ne (by omega)]; exact hk e he
  · rw [am_upd_ne (by omega), cset_ne (b := 1) (by omega)]; exact bits_cong (fun w hw => cset_ne (by omega)) hb
  · rw [am_upd_self, cset_ne (b := 2) (by omega)]; exact bits_on (by omega) (by omega) (fun w hw hne => cset_ne (by omega)) (cset_eq _ _ _) hb2
theorem Rg_holdOff {c : Nat → Int} {q : Nat} {M : AM} (hI : Ib c) {i : Nat} (hi : (i : Int) < c 2) (h : Rg c q M) : Rg (cset c (65 + i) 0) q (am_upd M q 8 (o_and (M q 8) (o_xor (o_shl 1 (i : Int)) (-1)))) := by
  have hc1 := hI.2.1
  have hc2 := hI.2.2
  obtain ⟨⟨r0, r1, r2, r3, r4, r5, r6⟩, hw, hk, hb, hb2⟩ := h
  refine ⟨⟨?_, ?_, ?_, ?_, ?_, ?_, ?_⟩, fun w hw2 => ?_, fun e he => ?_, ?_, ?_⟩
  · rw [am_upd_ne (by omega), cset_ne (by omega)]; exact r0
  · rw [am_upd_ne (by omega), cset_ne (by omega)]; exact r1
  · rw [am_upd_ne (by omega), cset_ne (by omega)]; exact r2
  · rw [am_upd_ne (by omega), cset_ne (by omega)]; exact r3
  · rw [am_upd_ne (by omega), cset_ne (by omega)]; exact r4
  · rw [am_upd_ne (by omega), cset_ne (by omega)]; exact r5
  · rw [am_upd_ne (by omega), cset_ne (by omega)]; exact r6
  · rw [cset_ne (by omega)] at hw2
    rw [am_upd_cell (by omega), am_upd_cell (by omega), am_upd_cell (by omega), cset_ne (by omega), cset_ne (by omega), cset_ne (by omega)]; exact hw w hw2
  · rw [cset_ne (by omega)] at he
    rw [am_upd_cell (by omega), am_upd_cell (by omega), am_upd_cell (by omega), am_upd_cell (by omega), am_upd_cell (by omega), cset_ne (by omega), cset_ne (by omega), cset_ne (by omega), cset_ne (by omega), cset_ne (by omega)]; exact hk e he
  · rw [am_upd_ne (by omega), cset_ne (b := 1) (by omega)]; exact bits_cong (fun w hw => cset_ne (by omega)) hb
  · rw [am_upd_self, cset_ne (b := 2) (by omega)]; exact bits_off (by omega) (by omega) (fun w hw hne => cset_ne (by omega)) (cset_eq _ _ _) hb2
