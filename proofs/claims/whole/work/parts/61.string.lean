/-! STRING -/
def strC (c : Nat → Int) (n : Nat) (a b : Int) : Nat → Int := fun j => if j = 1 then (n : Int) + 1 else if j = 7 + n then a else if j = 17 + n then b else if j = 27 + n then 0 else if j = 37 + n then 1 else c j
theorem strC_ne {c : Nat → Int} {n : Nat} {a b : Int} {j : Nat} (h1 : j ≠ 1) (h2 : j ≠ 7 + n) (h3 : j ≠ 17 + n) (h4 : j ≠ 27 + n) (h5 : j ≠ 37 + n) : strC c n a b j = c j := by
  unfold strC; rw [if_neg h1, if_neg h2, if_neg h3, if_neg h4, if_neg h5]
theorem strC_1 (c : Nat → Int) (n : Nat) (a b : Int) : strC c n a b 1 = (n : Int) + 1 := rfl
theorem strC_7 (c : Nat → Int) (n : Nat) (a b : Int) : strC c n a b (7 + n) = a := by unfold strC; rw [if_neg (by omega), if_pos rfl]
theorem strC_17 (c : Nat → Int) (n : Nat) (a b : Int) : strC c n a b (17 + n) = b := by unfold strC; rw [if_neg (by omega), if_neg (by omega), if_pos rfl]
theorem strC_27 (c : Nat → Int) (n : Nat) (a b : Int) : strC c n a b (27 + n) = 0 := by unfold strC; rw [if_neg (by omega), if_neg (by omega), if_neg (by omega), if_pos rfl]
theorem strC_37 (c : Nat → Int) (n : Nat) (a b : Int) : strC c n a b (37 + n) = 1 := by unfold strC; rw [if_neg (by omega), if_neg (by omega), if_neg (by omega), if_neg (by omega), if_pos rfl]
theorem Ic_str {c : Nat → Int} (hI : Ic c) {n : Nat} (hn : c 1 = (n : Int)) (h10 : n < 10) {a b : Int} (ha : 0 ≤ a ∧ a < c 0) (hb : 0 ≤ b ∧ b < c 0) : Ic (strC c n a b) := by
  have e0 : ∀ j, j ≠ 1 → j < 7 ∨ 47 ≤ j → strC c n a b j = c j := fun j h1 h => strC_ne h1 (by omega) (by omega) (by omega) (by omega)
  obtain ⟨h0, h1, h2, h3, h4, h5, h6, h7, h8⟩ := hI
  unfold Ic
  rw [e0 0 (by omega) (by omega), e0 2 (by omega) (by omega), e0 3 (by omega) (by omega), e0 4 (by omega) (by omega), e0 5 (by omega) (by omega), e0 6 (by omega) (by omega), strC_1]
  refine ⟨h0, by omega, h2, h3, h4, h5, h6, fun w hw => ?_, fun k hk => ?_⟩
  · by_cases e : w = n
    · subst e
      rw [strC_7, strC_17, strC_27, strC_37]
      exact ⟨ha, hb, by omega, Or.inr rfl⟩
    · have h := h7 w (by omega)
      rw [strC_ne (j := 7 + w) (by omega) (by omega) (by omega) (by omega) (by omega), strC_ne (j := 17 + w) (by omega) (by omega) (by omega) (by omega) (by omega), strC_ne (j := 27 + w) (by omega) (by omega) (by omega) (by omega) (by omega), strC_ne (j := 37 + w) (by omega) (by omega) (by omega) (by omega) (by omega)]
      exact h
  · rw [e0 (47 + k) (by omega) (by omega), e0 (53 + k) (by omega) (by omega), e0 (59 + k) (by omega) (by omega), e0 (65 + k) (by omega) (by omega), e0 (71 + k) (by omega) (by omega), e0 (77 + k) (by omega) (by omega)]
    exact h8 k hk
theorem bits_grow {B : Int} {n : Nat} {f g : Nat → Int} (hn : n + 1 ≤ 10) (h : ∀ w, w < n → g w = f w) (h1 : g n = 1) (hb : bits B n f) : bits (o_or B (o_shl 1 (n : Int))) (n + 1) g := by
  have hb2 : bits B (n + 1) (fun w => if w = n then 0 else f w) := by
    obtain ⟨b, e, hl, ht⟩ := hb
    refine ⟨b, e, by rw [Nat.pow_succ]; omega, fun w hw => ?_⟩
    by_cases e2 : w = n
    · subst e2
      show b.testBit w = true ↔ (if w = w then (0 : Int) else f w) = 1
      rw [if_pos rfl, Nat.testBit_lt_two_pow hl]
      constructor
      · intro h; cases h
      · intro h; exact absurd h (by decide)
    · show b.testBit w = true ↔ (if w = n then (0 : Int) else f w) = 1
      rw [if_neg e2]
      exact ht w (by omega)
  refine bits_on hn (k := n) (by omega) (fun w hw hne => ?_) h1 hb2
  show g w = if w = n then 0 else f w
  rw [if_neg hne]
  exact h w (by omega)
theorem x_addWire {c : Nat → Int} {q : Nat} {M : AM} (hI : Ic c) (hR : Rg c q M) {n : Nat} (hn : c 1 = (n : Int)) (h10 : n < 10) (a b : Int) :
    ∃ N, f_X1_addWire q a b 0 M = some N ∧ Rh (strC c n a b) q N ∧ (∀ x, x ≠ q → x ≠ q + 1 → x ≠ q + 2 → x ≠ q + 3 → N x = M x) := by
  obtain ⟨⟨r0, r1, r2, r3, r4, r5, r6⟩, hw, hk, hb, hb2⟩ := hR
  have h2 := hI.2.2.1
  have e0 : ∀ j, j ≠ 1 → j < 7 ∨ 47 ≤ j → strC c n a b j = c j := fun j h1 h => strC_ne h1 (by omega) (by omega) (by omega) (by omega)
  have hg := bits_grow (B := M q 7) (n := n) (f := fun w => c (37 + w)) (g := fun w => strC c n a b (37 + w)) (by omega) (fun w hwn => strC_ne (by omega) (by omega) (by omega) (by omega) (by omega)) (strC_37 _ _ _ _) (by rw [hn] at hb; exact hb)
  unfold f_X1_addWire
  have i3 : ∀ (x j : Nat) (v : Int), x ≠ q → am_upd M x j v q = M q := fun x j v hx => am_upd_cell (fun h => hx h.symm)
  simp only [zlet_eq]
  rw [r3, hn, tnc, if_neg (by omega), if_pos (by omega)]
  simp only [am_upd_cell (show ¬ q = q + 1 by omega), am_upd_cell (show ¬ q = q + 2 by omega), am_upd_cell (show ¬ q = q + 3 by omega), r3, hn, tnc]
  rw [if_pos (by omega), if_pos (by omega)]
  rw [am_upd_ne (show ¬ (q = q ∧ 3 = 7) by omega)]
  simp only [am_upd_cell (show ¬ q = q + 1 by omega), am_upd_cell (show ¬ q = q + 2 by omega), am_upd_cell (show ¬ q = q + 3 by omega), r3, hn]
  rw [o_add_eq (by omega) (by omega)]
  refine ⟨_, rfl, Rh_iff.mpr ⟨⟨⟨?_, ?_, ?_, ?_, ?_, ?_, ?_⟩, fun w hwl => ?_, fun k hkl => ?_, ?_, ?_⟩, Or.inl (am_upd_self _ _ _ _)⟩, fun x h0 h1 h2 h3 => ?_⟩
  · rw [e0 3 (by omega) (by omega)]; simp [am_upd_eq, r0]
  · rw [e0 4 (by omega) (by omega)]; simp [am_upd_eq, r1]
  · rw [e0 0 (by omega) (by omega)]; simp [am_upd_eq, r2]
  · rw [strC_1]; simp [am_upd_eq]
  · rw [e0 2 (by omega) (by omega)]; simp [am_upd_eq, r4]
  · rw [e0 5 (by omega) (by omega)]; simp [am_upd_eq, r5]
  · rw [e0 6 (by omega) (by omega)]; simp [am_upd_eq, r6]
  · rw [strC_1] at hwl
    by_cases e : w = n
    · subst e
      rw [strC_7, strC_17, strC_27]
      refine ⟨?_, ?_, ?_⟩ <;> simp [am_upd_eq]
    · obtain ⟨w1, w2, w3⟩ := hw w (by omega)
      rw [strC_ne (j := 7 + w) (by omega) (by omega) (by omega) (by omega) (by omega), strC_ne (j := 17 + w) (by omega) (by omega) (by omega) (by omega) (by omega), strC_ne (j := 27 + w) (by omega) (by omega) (by omega) (by omega) (by omega)]
      refine ⟨?_, ?_, ?_⟩
      · simp [am_upd_eq, e, w1]
      · simp [am_upd_eq, e, w2]
      · simp [am_upd_eq, e, w3]
  · rw [e0 2 (by omega) (by omega)] at hkl
    obtain ⟨k1, k2, k3, k4, k5⟩ := hk k hkl
    rw [e0 (47 + k) (by omega) (by omega), e0 (53 + k) (by omega) (by omega), e0 (59 + k) (by omega) (by omega), e0 (71 + k) (by omega) (by omega), e0 (77 + k) (by omega) (by omega)]
    have ex : ∀ x, q + 4 ≤ x → ∀ (Z : AM) (j1 j2 j3 : Nat) (v1 v2 v3 u1 u2 u3 : Int), am_upd (am_upd (am_upd (am_upd (am_upd (am_upd M (q + 1) j1 v1) (q + 2) j2 v2) (q + 3) j3 v3) q 7 u1) q 3 u2) q 19 u3 x = M x := by
      intro x hx Z j1 j2 j3 v1 v2 v3 u1 u2 u3
      rw [am_upd_cell (by omega), am_upd_cell (by omega), am_upd_cell (by omega), am_upd_cell (by omega), am_upd_cell (by omega), am_upd_cell (by omega)]
    rw [ex (q + 4) (by omega) M, ex (q + 5) (by omega) M, ex (q + 6) (by omega) M, ex (q + 7) (by omega) M, ex (q + 8) (by omega) M]
    exact ⟨k1, k2, k3, k4, k5⟩
  · rw [strC_1, show ((n : Int) + 1).toNat = n + 1 by omega, am_upd_ne (by omega), am_upd_ne (by omega), am_upd_self]
    exact hg
  · rw [e0 2 (by omega) (by omega), am_upd_ne (by omega), am_upd_ne (by omega), am_upd_ne (by omega), am_upd_cell (by omega), am_upd_cell (by omega), am_upd_cell (by omega)]
    exact bits_cong (fun w _ => e0 _ (by omega) (by omega)) hb2
  · rw [am_upd_cell h0, am_upd_cell h0, am_upd_cell h0, am_upd_cell h3, am_upd_cell h2, am_upd_cell h1]
theorem m_strings {P : AM} {n : Nat} (h10 : n < 10) (a b : Int) : ∃ N, f_X11_strings 0 (n : Int) a b 0 P = some N ∧ N 5 = strC (P 5) n a b ∧ ∀ x, x ≠ 5 → N x = P x := by
  unfold f_X11_strings
  have e0 : o_mul 355 0 = 0 := by decide
  have e7 : o_add (0 : Int) 7 = 7 := by decide
  have e17 : o_add (0 : Int) 17 = 17 := by decide
  have e27 : o_add (0 : Int) 27 = 27 := by decide
  have e37 : o_add (0 : Int) 37 = 37 := by decide
  have e1 : o_add (0 : Int) 1 = 1 := by decide
  simp only [e0, e7, e17, e27, e37, e1, tn1]
  rw [o_add_eq (x := 7) (by omega) (by omega), o_add_eq (x := 17) (by omega) (by omega), o_add_eq (x := 27) (by omega) (by omega), o_add_eq (x := 37) (by omega) (by omega), o_add_eq (x := (n : Int)) (by omega) (by omega), tp7, tp17, tp27, tp37]
  rw [if_pos (by omega), zlet_eq, if_pos (by omega), zlet_eq, if_pos (by omega), zlet_eq, if_pos (by omega), zlet_eq, if_pos (by omega), zlet_eq]
  refine ⟨_, rfl, ?_, fun x hx => ?_⟩
  · funext j
    unfold strC
    simp only [am_upd_eq, true_and]
    by_cases h1 : j = 1
    · simp [h1]
    · by_cases h2 : j = 37 + n
      · subst h2
        simp
      · by_cases h3 : j = 27 + n
        · subst h3
          simp
        · by_cases h4 : j = 17 + n
          · subst h4
            simp
          · simp [h1, h2, h3, h4]
  · rw [am_upd_cell hx, am_upd_cell hx, am_upd_cell hx, am_upd_cell hx, am_upd_cell hx]
theorem RR_str {M N1 N2 : AM} {n : Nat} {a b : Int} (hR : RR M) (hn : M 5 1 = (n : Int)) (h10 : n < 10) (ha : 0 ≤ a ∧ a < M 5 0) (hb : 0 ≤ b ∧ b < M 5 0) (hx : Qx M N1) (hm : ∀ x, ¬ mcell x → x ≠ 8 → N2 x = N1 x) (hf : Qf N1 N2) (h5 : N2 5 = strC (M 5) n a b) (h8 : ∀ j, j ≠ 8 + n → N2 8 j = N1 8 j) (h8n : N2 8 (8 + n) = 0) (hRh : Rh (strC (M 5) n a b) 23 N1) (hs : N2 0 0 = N1 15 0) : RR N2 := by
  obtain ⟨g1, g2, g3⟩ := RR_house hR
  obtain ⟨r1, r2, r3, r4, r5, r6, ⟨b1, b2, b3, b4, b5⟩, ⟨k, hk, e1, e2, hbm⟩, ⟨l1, l2, l3⟩⟩ := hR
  obtain ⟨hx1, hx2⟩ := hx
  obtain ⟨f2, f3, f8, f10, f11, f24, f34⟩ := hf
  have hI := Ic_str g1 hn h10 ha hb
  have h0 : N1 0 = M 0 := hx1 0 (by unfold xcell; omega)
  have h15 : N2 15 = N1 15 := hm 15 (by unfold mcell; omega) (by decide)
  have hc : ∀ x, ¬ xcell x → ¬ mcell x → x ≠ 8 → N2 x = M x := fun x a1 a2 a3 => (hm x a2 a3).trans (hx1 x a1)
  have hhi : ∀ j, 47 ≤ j → N2 5 j = M 5 j := fun j hj => by rw [h5]; exact strC_ne (by omega) (by omega) (by omega) (by omega) (by omega)
  have h18 : N1 8 = M 8 := hx1 8 (by unfold xcell; omega)
  rw [h0] at f2 f3 f8 f10 f11 f24 f34
  have s0 : N2 5 0 = M 5 0 := by rw [h5]; exact strC_ne (by omega) (by omega) (by omega) (by omega) (by omega)
  have s1 : N2 5 1 = (n : Int) + 1 := by rw [h5]; rfl
  have s2 : N2 5 2 = M 5 2 := by rw [h5]; exact strC_ne (by omega) (by omega) (by omega) (by omega) (by omega)
  have s5 : N2 5 5 = M 5 5 := by rw [h5]; exact strC_ne (by omega) (by omega) (by omega) (by omega) (by omega)
  have hI2 : Ic (N2 5) := by rw [h5]; exact hI
  have w0 := hI2.1
  have w2 := hI2.2.2.1
  refine ⟨by rw [h15, hs], ?_, ?_, ?_, ?_, ?_, ?_, ?_, ?_⟩
  · rw [h15, hx2 1 (by decide), hx2 2 (by decide), f2, f3]; exact r2
  · rw [h15, hx2 4 (by decide), hx2 5 (by decide), f10, f11]; exact r3
  · exact Rt_cong (hc 1 (by unfold xcell; omega) (by unfold mcell; omega) (by decide)) (hc 2 (by unfold xcell; omega) (by unfold mcell; omega) (by decide)) (hc 3 (by unfold xcell; omega) (by unfold mcell; omega) (by decide)) (fun t ht => ⟨hc _ (by unfold xcell; omega) (by unfold mcell; omega) (by omega), hc _ (by unfold xcell; omega) (by unfold mcell; omega) (by omega)⟩) r4
  · unfold Rp at r5 ⊢
    rw [hc 20 (by unfold xcell; omega) (by unfold mcell; omega) (by decide), hc 21 (by unfold xcell; omega) (by unfold mcell; omega) (by decide), hc 4 (by unfold xcell; omega) (by unfold mcell; omega) (by decide), f8]
    exact r5
  · unfold Rk at r6 ⊢
    rw [hc 22 (by unfold xcell; omega) (by unfold mcell; omega) (by decide)]
    exact r6
  · refine ⟨Ic_congr blk83 hI2, by rw [blk83 5 (by omega), s5]; exact g2, ?_, ?_, ?_⟩
    · refine Rh_congr blk83 (by omega) (by omega) ?_
      rw [h5]
      exact Rh_cong (fun i hi => hm _ (by unfold mcell; omega) (by omega)) hRh
    · unfold Rn at b4 ⊢
      rw [hc 32 (by unfold xcell; omega) (by unfold mcell; omega) (by decide), blk83 0 (by omega), blk83 1 (by omega), blk83 2 (by omega), s0, s1, s2]
      rw [blk83 0 (by omega), blk83 1 (by omega), blk83 2 (by omega), hn] at b4
      obtain ⟨c1, c2, c3, c4⟩ := b4
      have e8 : ∀ j, j ≠ 8 + n → N2 8 (24 * 0 + j) = M 8 (24 * 0 + j) := fun j hj => by rw [show 24 * 0 + j = j by omega, h8 j hj, h18]
      have e8n : N2 8 (24 * 0 + (8 + n)) = 0 := by rw [show 24 * 0 + (8 + n) = 8 + n by omega]; exact h8n
      refine ⟨fun i hi => ?_, fun i hi => ?_, fun i hi => ?_, fun i hi1 hi2 => c4 i (by omega) hi2⟩
      · exact (c1 i hi).trans (e8 i (by omega)).symm
      · by_cases e : i = n
        · subst e
          exact (c4 i (by omega) h10).trans e8n.symm
        · exact (c2 i (by omega)).trans (e8 (8 + i) (by omega)).symm
      · exact (c3 i hi).trans (e8 (18 + i) (by omega)).symm
    · refine Ry_c (c := blk (M 5) 0) (by rw [blk83 1 (by omega), blk83 1 (by omega), s1, hn]; omega) (by rw [blk83 2 (by omega), blk83 2 (by omega), s2]) (fun j j1 j2 => ?_) (Ry_cong (fun i hi => hc _ (by unfold xcell; omega) (by unfold mcell; omega) (by omega)) b5)
      rw [blk0_at j2, blk0_at j2, hhi j (by omega)]
  · refine ⟨k, hk, by rw [h15, hx2 13 (by decide)]; exact e1, by rw [f24]; exact e2, fun i hi => ?_⟩
    exact Rb_cong (fun j hj => hhi _ (by omega)) (fun j hj => by rw [h8 _ (by omega), h18]) (fun j hj => hc _ (by unfold xcell; omega) (by unfold mcell; omega) (by omega)) (fun j hj => hc _ (by unfold xcell; omega) (by unfold mcell; omega) (by omega)) (hbm i hi)
  · refine ⟨by rw [h15, hx2 19 (by decide), f34]; exact l1, by rw [f34]; exact l2, fun i hi => ?_⟩
    rw [hc 19 (by unfold xcell; omega) (by unfold mcell; omega) (by decide), hc 14 (by unfold xcell; omega) (by unfold mcell; omega) (by decide)]
    exact l3 i hi
/-- where STRING refuses -/
def strS (c : Nat → Int) (a1 a2 : Int) : Int := if (0 ≤ a1 ∧ a1 < c 0) ∧ (0 ≤ a2 ∧ a2 < c 0) then (if a1 = a2 then 5 else 7) else 2
theorem strS_5 {c : Nat → Int} {a1 a2 : Int} (g1 : 0 ≤ a1 ∧ a1 < c 0) (g2 : 0 ≤ a2 ∧ a2 < c 0) (g : a1 = a2) : strS c a1 a2 = 5 := by unfold strS; rw [if_pos ⟨g1, g2⟩, if_pos g]
theorem strS_7 {c : Nat → Int} {a1 a2 : Int} (g1 : 0 ≤ a1 ∧ a1 < c 0) (g2 : 0 ≤ a2 ∧ a2 < c 0) (g : ¬ a1 = a2) : strS c a1 a2 = 7 := by unfold strS; rw [if_pos ⟨g1, g2⟩, if_neg g]
theorem strS_2a {c : Nat → Int} {a1 a2 : Int} (g1 : ¬ (0 ≤ a1 ∧ a1 < c 0)) : strS c a1 a2 = 2 := by unfold strS; rw [if_neg (fun h => g1 h.1)]
theorem strS_2b {c : Nat → Int} {a1 a2 : Int} (g2 : ¬ (0 ≤ a2 ∧ a2 < c 0)) : strS c a1 a2 = 2 := by unfold strS; rw [if_neg (fun h => g2 h.2)]
theorem a_strRef (a1 a2 : Int) (ok : (Nat → Int) → Prop) (hok : ∀ c, ok c ↔ ((0 ≤ a1 ∧ a1 < c 0) ∧ (0 ≤ a2 ∧ a2 < c 0) ∧ ¬ a1 = a2 ∧ ¬ c 1 = 10)) : ∀ M, RR M → ¬ ok (M 5) → ∃ v N1 N2, f_X10_string a1 a2 M = some (v, N1) ∧ f_X11_string a1 a2 N1 = some (v, N2) ∧ RR N2 := by
  intro M hR hno
  rw [hok] at hno
  obtain ⟨hI, h9, hRh⟩ := RR_house hR
  have hg := (Rh_iff.mp hRh).1
  have hc1 := hI.2.1
  have e3 : M 23 3 = M 5 1 := hg.1.2.2.2.1
  have ex : f_X10_string a1 a2 M = some (-1, am_upd M 15 0 (strS (M 5) a1 a2)) := by
    unfold f_X10_string f_X10_string_22
    by_cases g1 : 0 ≤ a1 ∧ a1 < M 5 0
    · rw [xroom_t hg g1, bind_s]
      simp only [i10, if_false]
      by_cases g2 : 0 ≤ a2 ∧ a2 < M 5 0
      · rw [xroom_t hg g2, bind_s]
        simp only [i10, not_false_eq_true, if_true, x_fail, bind_s]
        by_cases g3 : a1 = a2
        · rw [if_neg (fun h => h g3), strS_5 g1 g2 g3]
        · rw [if_pos g3, if_neg (fun h => hno ⟨g1, g2, g3, by omega⟩), strS_7 g1 g2 g3]
      · rw [xroom_f hg g2, bind_s, strS_2b g2]
        simp only [i00, not_true_eq_false, if_false, x_fail, bind_s]
    · rw [xroom_f hg g1, bind_s, strS_2a g1]
      simp only [i00, if_true, x_fail, bind_s]
  have q1 := Qx_st M (strS (M 5) a1 a2)
  generalize hP : am_upd M 15 0 (strS (M 5) a1 a2) = P at ex q1
  have p5 : P 5 = M 5 := q1.1 5 (by unfold xcell; omega)
  obtain ⟨M2, hM2, e5, q2, s2, hc, hf⟩ := MS_ok P
  have e5' : M2 5 = M 5 := e5.trans p5
  have hI2 : Ic (M2 5) := by rw [e5']; exact hI
  have em : f_X11_string a1 a2 P = some (-1, am_upd M2 0 0 (strS (M 5) a1 a2)) := by
    unfold f_X11_string f_X11_string_26
    rw [zlet_eq, zlet_eq, hM2]
    by_cases g1 : 0 ≤ a1 ∧ a1 < M 5 0
    · rw [mroom_t hI2 (by rw [e5']; exact g1), bind_s]
      simp only [i10, if_false]
      by_cases g2 : 0 ≤ a2 ∧ a2 < M 5 0
      · rw [mroom_t hI2 (by rw [e5']; exact g2), bind_s]
        simp only [i10, not_false_eq_true, if_true, m_refuse, bind_s, tn1, e5']
        by_cases g3 : a1 = a2
        · rw [if_neg (fun h => h g3), strS_5 g1 g2 g3]
        · rw [if_pos g3, if_neg (fun h => hno ⟨g1, g2, g3, h⟩), strS_7 g1 g2 g3]
      · rw [mroom_f hI2 (by rw [e5']; exact g2), bind_s, strS_2b g2]
        simp only [i00, not_true_eq_false, if_false, m_refuse, bind_s]
    · rw [mroom_f hI2 (by rw [e5']; exact g1), bind_s, strS_2a g1]
      simp only [i00, if_true, m_refuse, bind_s]
  have c5 : am_upd M2 0 0 (strS (M 5) a1 a2) 5 = M 5 := by rw [am_upd_cell (by decide)]; exact e5'
  refine ⟨_, P, _, ex, em, RR_mk hR q1 (Qm_trans q2 (Qm_st _ _)) (by rw [c5]; exact hI) (by rw [c5]; exact h9) ?_ (by rw [c5]; exact ⟨rfl, rfl, rfl⟩) (by rw [c5]; exact fun _ _ => rfl) ?_⟩
  · rw [c5, ← hP]
    exact Rh_cong (fun i hi => am_upd_cell (by omega)) hRh
  · rw [am_upd_self, ← hP, am_upd_self]
theorem a_string (a1 a2 : Int) : Alike (f_X10_string a1 a2) (f_X11_string a1 a2) := by
  intro M hR
  obtain ⟨hI0, h90, hRh0⟩ := RR_house hR
  have hc1 := hI0.2.1
  by_cases hall : (0 ≤ a1 ∧ a1 < M 5 0) ∧ (0 ≤ a2 ∧ a2 < M 5 0) ∧ ¬ a1 = a2 ∧ ¬ M 5 1 = 10
  · obtain ⟨g1, g2, ha, gn⟩ := hall
    obtain ⟨n, hn⟩ : ∃ n : Nat, M 5 1 = (n : Int) := ⟨(M 5 1).toNat, by omega⟩
    have hg := (Rh_iff.mp hRh0).1
    have e3 : M 23 3 = M 5 1 := hg.1.2.2.2.1
    obtain ⟨N, e, hN, hE⟩ := x_addWire hI0 hg hn (by omega) a1 a2
    have e3N : N 23 3 = (n : Int) + 1 := hN.1.2.2.2.1
    have ex : f_X10_string a1 a2 M = some ((n : Int), am_upd N 15 0 0) := by
      unfold f_X10_string
      rw [xroom_t hg g1, bind_s]
      simp only [i10, if_false]
      rw [xroom_t hg g2, bind_s]
      simp only [i10, not_false_eq_true, if_true]
      rw [if_pos ha, if_pos (by omega), e, bind_s, e3N, o_sub_eq (by omega) (by omega), x_answer, bind_s, show (n : Int) + 1 - 1 = (n : Int) by omega]
    have q1 : Qx M (am_upd N 15 0 0) := ⟨fun x hx => by rw [am_upd_cell (by rintro rfl; exact hx (Or.inl rfl))]; exact hE x (by rintro rfl; exact hx (by unfold xcell; omega)) (by rintro rfl; exact hx (by unfold xcell; omega)) (by rintro rfl; exact hx (by unfold xcell; omega)) (by rintro rfl; exact hx (by unfold xcell; omega)), fun j hj => by rw [am_upd_ne (fun h => hj h.2), hE 15 (by decide) (by decide) (by decide) (by decide)]⟩
    generalize hP : am_upd N 15 0 0 = P at ex q1
    have p5 : P 5 = M 5 := q1.1 5 (by unfold xcell; omega)
    obtain ⟨M2, hM2, e5, q2, s2, hc, hf⟩ := MS_ok P
    have e5' : M2 5 = M 5 := e5.trans p5
    have hI2 : Ic (M2 5) := by rw [e5']; exact hI0
    obtain ⟨N3, e6, h53, hE3⟩ := m_strings (P := am_upd M2 8 (8 + n) 0) (show n < 10 by omega) a1 a2
    have em : f_X11_string a1 a2 P = some ((n : Int), N3) := by
      unfold f_X11_string
      rw [zlet_eq, zlet_eq, hM2, mroom_t hI2 (by rw [e5']; exact g1), bind_s]
      simp only [i10, if_false]
      rw [mroom_t hI2 (by rw [e5']; exact g2), bind_s]
      simp only [i10, not_false_eq_true, if_true, tn1, e5']
      rw [if_pos ha, if_pos gn, hn, o_add_eq (by omega) (by omega), if_pos (by omega), zlet_eq, show ((8 : Int) + (n : Int)).toNat = 8 + n by omega]
      rw [e6, bind_s]
    refine ⟨_, P, N3, ex, em, RR_str (n := n) (a := a1) (b := a2) hR hn (by omega) g1 g2 q1 ?_ ?_ ?_ ?_ ?_ ?_ ?_⟩
    · intro x hx h8
      rw [hE3 x (by rintro rfl; exact hx (by unfold mcell; omega)), am_upd_cell h8]
      exact q2.1 x hx
    · have h30 : N3 0 = M2 0 := by rw [hE3 0 (by decide), am_upd_cell (by decide)]
      have := q2.2
      unfold Qf at this ⊢
      rw [h30]
      exact this
    · rw [h53, am_upd_cell (by decide), e5']
    · intro j hj
      rw [hE3 8 (by decide), am_upd_ne (fun h => hj h.2), hc 8 (by decide)]
    · rw [hE3 8 (by decide), am_upd_self]
    · rw [← hP]
      exact Rh_cong (fun i hi => am_upd_cell (by omega)) hN
    · rw [hE3 0 (by decide), am_upd_cell (by decide), s2, ← hP, am_upd_self]
  · exact a_strRef a1 a2 (fun c => (0 ≤ a1 ∧ a1 < c 0) ∧ (0 ≤ a2 ∧ a2 < c 0) ∧ ¬ a1 = a2 ∧ ¬ c 1 = 10) (fun c => Iff.rfl) M hR hall
