/-! fractions -/
theorem l_div_eq {x y : Int} (hx : 0 ≤ x) (hx2 : x < 9223372036854775808) (hy : 0 < y) (hy2 : y < 9223372036854775808) : l_div x y = x / y := by
  unfold l_div
  have ex : (Int64.ofInt x).toInt = x := w64 (by omega) hx2
  have ey : (Int64.ofInt y).toInt = y := w64 (by omega) hy2
  rw [Int64.toInt_div_of_ne_right, ex, ey, Int.tdiv_eq_ediv_of_nonneg hx]
  intro h
  rw [h] at ey
  have e1 : (-1 : Int64).toInt = -1 := by decide
  rw [e1] at ey
  omega
theorem l_rem_eq {x y : Int} (hx : 0 ≤ x) (hx2 : x < 9223372036854775808) (hy : 0 < y) (hy2 : y < 9223372036854775808) : l_rem x y = x % y := by
  have ex : (Int64.ofInt x).toInt = x := w64 (by omega) hx2
  have ey : (Int64.ofInt y).toInt = y := w64 (by omega) hy2
  have hd : Int64.ofInt x / Int64.ofInt y = Int64.ofInt (x / y) := by
    have := l_div_eq hx hx2 hy hy2
    unfold l_div at this
    rw [← this, Int64.ofInt_toInt]
  have hq : 0 ≤ x / y := Int.ediv_nonneg hx (by omega)
  have hr := Int.emod_nonneg x (show y ≠ 0 by omega)
  have hm := Int.mul_ediv_add_emod x y
  have hr2 : x - x / y * y = x % y := by rw [Int.mul_comm (x / y) y]; omega
  unfold l_rem
  rw [hd, ← Int64.ofInt_mul, ← Int64.ofInt_sub, hr2]
  exact w64 (by omega) (by have := Int.emod_lt_of_pos x hy; omega)
theorem l_cmp_0 {x : Int} : l_cmp x 0 = 0 ↔ x = 0 := by
  unfold l_cmp
  by_cases h : 0 < x
  · rw [if_pos h]; omega
  · rw [if_neg h]
    by_cases h2 : x = 0
    · rw [if_pos h2]; omega
    · rw [if_neg h2]; omega
theorem l_abs_eq {x : Int} (hx : 0 ≤ x) : l_abs x = x := by
  unfold l_abs
  by_cases h : 0 < x
  · rw [if_pos h]
  · rw [if_neg h, show x = 0 by omega]; rfl
/-- the pair halves its product -/
theorem eu_step {a b K i : Nat} (h1 : b < a) (hb : 0 < b) (h2 : a * b * 2 ^ i ≤ K) : b * (a % b) * 2 ^ (i + 1) ≤ K := by
  have h3 : 2 * (a % b) ≤ a := by
    have q1 : 1 ≤ a / b := (Nat.le_div_iff_mul_le hb).mpr (by omega)
    have q2 := Nat.mod_lt a hb
    have q3 := Nat.div_add_mod a b
    have q4 : b * 1 ≤ b * (a / b) := Nat.mul_le_mul_left b q1
    omega
  have h4 : b * (a % b) * 2 ^ (i + 1) = b * (2 * (a % b)) * 2 ^ i := by rw [Nat.pow_succ]; simp only [Nat.mul_comm, Nat.mul_left_comm, Nat.mul_assoc]
  rw [h4]
  have h5 : b * (2 * (a % b)) ≤ a * b := by rw [Nat.mul_comm a b]; exact Nat.mul_le_mul_left b h3
  exact Nat.le_trans (Nat.mul_le_mul_right _ h5) h2
/-- what is left after i steps -/
def Eu (g i : Nat) (s : Nat × Nat) : Prop := Nat.gcd s.1 s.2 = g ∧ s.1 < 9223372036854775808 ∧ s.2 < 9223372036854775808 ∧ 0 < s.1 ∧ (1 ≤ i → s.2 < s.1 ∧ s.1 * s.2 * 2 ^ i ≤ 2 ^ 130)
theorem Eu_next {g i : Nat} {s : Nat × Nat} (h : Eu g i s) (hb : s.2 ≠ 0) : Eu g (i + 1) (s.2, s.1 % s.2) := by
  obtain ⟨a, b⟩ := s
  obtain ⟨h1, h2, h3, h4, h5⟩ := h
  dsimp only at h1 h2 h3 h4 h5 hb
  have hm := Nat.mod_lt a (show 0 < b by omega)
  refine ⟨?_, h3, by show a % b < _; omega, by show 0 < b; omega, fun _ => ⟨hm, ?_⟩⟩
  · show Nat.gcd b (a % b) = g
    rw [← h1, Nat.gcd_comm a b, Nat.gcd_rec b a, Nat.gcd_comm]
  · show b * (a % b) * 2 ^ (i + 1) ≤ 2 ^ 130
    by_cases hi : 1 ≤ i
    · obtain ⟨h6, h7⟩ := h5 hi
      exact eu_step h6 (by omega) h7
    · have e : i = 0 := by omega
      subst e
      have p1 : b * (a % b) ≤ 9223372036854775808 * 9223372036854775808 := Nat.mul_le_mul (by omega) (by omega)
      have p2 : b * (a % b) * 2 ^ (0 + 1) ≤ 9223372036854775808 * 9223372036854775808 * 2 := Nat.mul_le_mul p1 (by decide)
      exact Nat.le_trans p2 (by decide)
theorem Eu_end {g i : Nat} {s : Nat × Nat} (h : Eu g i s) (hi : 131 ≤ i) : s.2 = 0 := by
  obtain ⟨h1, h2, h3, h4, h5⟩ := h
  obtain ⟨h6, h7⟩ := h5 (by omega)
  by_cases e : s.2 = 0
  · exact e
  · exfalso
    have p1 : 1 * 1 ≤ s.1 * s.2 := Nat.mul_le_mul h4 (by omega)
    have p2 : 2 ^ 131 ≤ 2 ^ i := Nat.pow_le_pow_right (by decide) hi
    have p3 : 1 * 2 ^ 131 ≤ s.1 * s.2 * 2 ^ i := Nat.mul_le_mul p1 p2
    have p4 : (1 * 2 ^ 131 : Nat) ≤ 2 ^ 130 := Nat.le_trans p3 h7
    exact absurd p4 (by decide)
theorem Eu_0 {a b : Nat} (ha : a < 9223372036854775808) (hb : b < 9223372036854775808) (h : 0 < a) : Eu (Nat.gcd a b) 0 (a, b) := ⟨rfl, ha, hb, h, fun h => absurd h (by decide)⟩
theorem x_gcd {a b : Nat} {M : AM} (ha : a < 9223372036854775808) (hb : b < 9223372036854775808) (h : 0 < b) : f_X10_commonDivisor (a : Int) (b : Int) M = some (((Nat.gcd a b : Nat) : Int), M) := by
  have hw : Wp (f_X10_commonDivisor_9 zB (a : Int) (b : Int) 0 M) (fun r => r = (((Nat.gcd a b : Nat) : Int), M)) := by
    refine up_loopP0 (fun n i (s : Nat × Nat) => f_X10_commonDivisor_9 n (s.1 : Int) (s.2 : Int) (i : Int) M) (fun i s => Nat.gcd s.1 s.2 = Nat.gcd a b ∧ s.1 < 9223372036854775808 ∧ s.2 < 9223372036854775808 ∧ (1 ≤ i → Eu (Nat.gcd a b) i s)) _ 200 (a, b) ⟨rfl, ha, hb, fun h => absurd h (by decide)⟩ ?_ ?_ (by omega)
    · rintro n i ⟨x, y⟩ hi ⟨g1, g2, g3, g4⟩
      dsimp only at g1 g2 g3 g4
      show (∃ s2 : Nat × Nat, _ ∧ f_X10_commonDivisor_9 (n + 1) (x : Int) (y : Int) (i : Int) M = f_X10_commonDivisor_9 n (s2.1 : Int) (s2.2 : Int) ((i + 1 : Nat) : Int) M) ∨ Wp (f_X10_commonDivisor_9 (n + 1) (x : Int) (y : Int) (i : Int) M) _
      simp only [f_X10_commonDivisor_9, l_cmp_0]
      rw [if_neg (by omega)]
      by_cases e : (y : Int) = 0
      · right
        have e2 : y = 0 := by omega
        rw [if_pos e]
        refine wp_some ?_
        rw [e2, Nat.gcd_zero_right] at g1
        rw [g1]
      · left
        have hm := Nat.mod_lt x (show 0 < y by omega)
        rw [if_neg e, if_pos e, l_rem_eq (by omega) (by omega) (by omega) (by omega), o_succ (by omega)]
        refine ⟨(y, x % y), ⟨?_, g3, by show x % y < _; omega, fun _ => ?_⟩, by rw [show ((x % y : Nat) : Int) = (x : Int) % (y : Int) from rfl]⟩
        · show Nat.gcd y (x % y) = _
          rw [← g1, Nat.gcd_comm x y, Nat.gcd_rec y x, Nat.gcd_comm]
        · by_cases hi : 1 ≤ i
          · exact Eu_next (g4 hi) (by show y ≠ 0; omega)
          · have e0 : i = 0 := by omega
            subst e0
            by_cases hx : x = 0
            · subst hx
              have e1 : 0 % y = 0 := Nat.zero_mod y
              refine ⟨?_, g3, by show 0 % y < _; omega, by show 0 < y; omega, fun _ => ⟨by show 0 % y < y; omega, ?_⟩⟩
              · show Nat.gcd y (0 % y) = _
                rw [e1, Nat.gcd_zero_right, ← g1, Nat.gcd_zero_left]
              · show y * (0 % y) * 2 ^ (0 + 1) ≤ 2 ^ 130
                rw [e1, Nat.mul_zero, Nat.zero_mul]; exact Nat.zero_le _
            · refine Eu_next (s := (x, y)) ⟨g1, g2, g3, by show 0 < x; omega, fun h => absurd h (by decide)⟩ (by show y ≠ 0; omega)
    · rintro n ⟨x, y⟩ ⟨g1, g2, g3, g4⟩
      dsimp only at g1 g2 g3 g4
      have e2 : y = 0 := Eu_end (g4 (by decide)) (by decide)
      show Wp (f_X10_commonDivisor_9 (n + 1) (x : Int) (y : Int) ((200 : Nat) : Int) M) _
      simp only [f_X10_commonDivisor_9]
      rw [if_pos (by omega)]
      refine wp_some ?_
      rw [e2, Nat.gcd_zero_right] at g1
      rw [g1]
  obtain ⟨r, e, hr⟩ := hw
  unfold f_X10_commonDivisor
  rw [e, hr]
def frU (M : AM) (q j1 j2 : Nat) (a b : Nat) : AM := am_upd (am_upd M q j1 (((a / Nat.gcd a b : Nat)) : Int)) q j2 ((b / Nat.gcd a b : Nat) : Int)
theorem gcd_le {a b : Nat} (h : 0 < b) : 0 < Nat.gcd a b ∧ Nat.gcd a b ≤ b := ⟨Nat.gcd_pos_of_pos_right a h, Nat.gcd_le_right a h⟩
theorem x_tell {a b : Nat} {M : AM} (ha : a < 9223372036854775808) (hb : b < 9223372036854775808) (h : 0 < b) : f_X10_tell (a : Int) (b : Int) M = some (frU M 15 1 2 a b) := by
  obtain ⟨g1, g2⟩ := gcd_le (a := a) h
  unfold f_X10_tell
  rw [x_gcd ha hb h, bind_s]
  dsimp only
  have h1 : ¬ l_cmp ((Nat.gcd a b : Nat) : Int) 0 ≤ 0 := by rw [l_cmp_le]; omega
  have h2 : ((Nat.gcd a b : Nat) : Int) ≠ 0 := by omega
  rw [if_neg h1, if_pos h2, zlet_eq, zlet_eq, l_div_eq (by omega) (by omega) (by omega) (by omega), l_div_eq (by omega) (by omega) (by omega) (by omega)]
  rfl
theorem m_fraction {a b : Nat} {M : AM} (ha : a < 9223372036854775808) (hb : b < 9223372036854775808) (h : 0 < b) : f_X11_fraction (a : Int) (b : Int) M = some (1, frU M 0 2 3 a b) := by
  obtain ⟨k1, k2⟩ := gcd_le (a := a) h
  have hend : ∀ x : Nat, x = Nat.gcd a b → (if (x : Int) ≠ 0 then (zlet (am_upd M 0 2 (l_div (a : Int) (x : Int))) fun M2 => zlet (am_upd M2 0 3 (l_div (b : Int) (x : Int))) fun M3 => some ((1 : Int), M3)) else none) = some (1, frU M 0 2 3 a b) := by
    intro x hx
    subst hx
    have h2 : ((Nat.gcd a b : Nat) : Int) ≠ 0 := by omega
    rw [if_pos h2, zlet_eq, zlet_eq, l_div_eq (by omega) (by omega) (by omega) (by omega), l_div_eq (by omega) (by omega) (by omega) (by omega)]
    rfl
  have hw : Wp (f_X11_fraction_9 zB (a : Int) (b : Int) (a : Int) (b : Int) M) (fun r => r = (1, frU M 0 2 3 a b)) := by
    refine up_loopP0 (fun n i (s : Nat × Nat) => f_X11_fraction_9 n (a : Int) (b : Int) (s.1 : Int) (s.2 : Int) M) (fun i s => Nat.gcd s.1 s.2 = Nat.gcd a b ∧ s.1 < 9223372036854775808 ∧ s.2 < 9223372036854775808 ∧ (1 ≤ i → Eu (Nat.gcd a b) i s)) _ 200 (a, b) ⟨rfl, ha, hb, fun h => absurd h (by decide)⟩ ?_ ?_ (by omega)
    · rintro n i ⟨x, y⟩ hi ⟨g1, g2, g3, g4⟩
      dsimp only at g1 g2 g3 g4
      show (∃ s2 : Nat × Nat, _ ∧ f_X11_fraction_9 (n + 1) (a : Int) (b : Int) (x : Int) (y : Int) M = f_X11_fraction_9 n (a : Int) (b : Int) (s2.1 : Int) (s2.2 : Int) M) ∨ Wp (f_X11_fraction_9 (n + 1) (a : Int) (b : Int) (x : Int) (y : Int) M) _
      simp only [f_X11_fraction_9, l_cmp_0]
      by_cases e : (y : Int) = 0
      · right
        have e2 : y = 0 := by omega
        rw [e2, Nat.gcd_zero_right] at g1
        rw [if_pos e, hend x g1]
        exact wp_some rfl
      · left
        have hm := Nat.mod_lt x (show 0 < y by omega)
        rw [if_neg e, if_pos e, l_rem_eq (by omega) (by omega) (by omega) (by omega)]
        refine ⟨(y, x % y), ⟨?_, g3, by show x % y < _; omega, fun _ => ?_⟩, by rw [show ((x % y : Nat) : Int) = (x : Int) % (y : Int) from rfl]⟩
        · show Nat.gcd y (x % y) = _
          rw [← g1, Nat.gcd_comm x y, Nat.gcd_rec y x, Nat.gcd_comm]
        · by_cases hi : 1 ≤ i
          · exact Eu_next (g4 hi) (by show y ≠ 0; omega)
          · have e0 : i = 0 := by omega
            subst e0
            by_cases hx : x = 0
            · subst hx
              have e1 : 0 % y = 0 := Nat.zero_mod y
              refine ⟨?_, g3, by show 0 % y < _; omega, by show 0 < y; omega, fun _ => ⟨by show 0 % y < y; omega, ?_⟩⟩
              · show Nat.gcd y (0 % y) = _
                rw [e1, Nat.gcd_zero_right, ← g1, Nat.gcd_zero_left]
              · show y * (0 % y) * 2 ^ (0 + 1) ≤ 2 ^ 130
                rw [e1, Nat.mul_zero, Nat.zero_mul]; exact Nat.zero_le _
            · refine Eu_next (s := (x, y)) ⟨g1, g2, g3, by show 0 < x; omega, fun h => absurd h (by decide)⟩ (by show y ≠ 0; omega)
    · rintro n ⟨x, y⟩ ⟨g1, g2, g3, g4⟩
      dsimp only at g1 g2 g3 g4
      have e2 : y = 0 := Eu_end (g4 (by decide)) (by decide)
      subst e2
      rw [Nat.gcd_zero_right] at g1
      show Wp (f_X11_fraction_9 (n + 1) (a : Int) (b : Int) (x : Int) ((0 : Nat) : Int) M) _
      simp only [f_X11_fraction_9, l_cmp_0]
      rw [if_pos (by omega), hend x g1]
      exact wp_some rfl
  obtain ⟨r, e, hr⟩ := hw
  unfold f_X11_fraction
  rw [l_abs_eq (by omega), e, hr]
/-! the glue of those that tell a fraction -/
def Qx2 (M N : AM) : Prop := (∀ a, ¬ xcell a → N a = M a) ∧ ∀ j, j ≠ 0 → j ≠ 1 → j ≠ 2 → N 15 j = M 15 j
def Qm2 (M N : AM) : Prop := (∀ a, ¬ mcell a → N a = M a) ∧ (N 0 8 = M 0 8 ∧ N 0 10 = M 0 10 ∧ N 0 11 = M 0 11 ∧ N 0 24 = M 0 24 ∧ N 0 34 = M 0 34)
theorem RR_mk2 {M N1 N2 : AM} (hR : RR M) (hx : Qx2 M N1) (hm : Qm2 N1 N2) (hI : Ic (N2 5)) (h9 : N2 5 5 ≤ 9999) (hRh : Rh (N2 5) 23 N1) (h012 : N2 5 0 = M 5 0 ∧ N2 5 1 = M 5 1 ∧ N2 5 2 = M 5 2) (h83 : ∀ k, 83 ≤ k → N2 5 k = M 5 k) (hs : N2 0 0 = N1 15 0) (ht : N1 15 1 = N2 0 2 ∧ N1 15 2 = N2 0 3) : RR N2 := by
  obtain ⟨r1, r2, r3, r4, r5, r6, ⟨b1, b2, b3, b4, b5⟩, ⟨n, hn, e1, e2, hb⟩, ⟨l1, l2, l3⟩⟩ := hR
  obtain ⟨hx1, hx2⟩ := hx
  obtain ⟨hm1, f8, f10, f11, f24, f34⟩ := hm
  have h0 : N1 0 = M 0 := hx1 0 (by unfold xcell; omega)
  have h15 : N2 15 = N1 15 := hm1 15 (by unfold mcell; omega)
  have hc : ∀ a, ¬ xcell a → ¬ mcell a → N2 a = M a := fun a h1 h2 => (hm1 a h2).trans (hx1 a h1)
  rw [h0] at f8 f10 f11 f24 f34
  have hI0 := Ic_congr blk83' b1
  refine ⟨by rw [h15, hs], ?_, ?_, ?_, ?_, ?_, ?_, ?_, ?_⟩
  · rw [h15]; exact ht
  · rw [h15, hx2 4 (by decide) (by decide) (by decide), hx2 5 (by decide) (by decide) (by decide), f10, f11]; exact r3
  · exact Rt_cong (hc 1 (by unfold xcell; omega) (by unfold mcell; omega)) (hc 2 (by unfold xcell; omega) (by unfold mcell; omega)) (hc 3 (by unfold xcell; omega) (by unfold mcell; omega)) (fun t ht => ⟨hc _ (by unfold xcell; omega) (by unfold mcell; omega), hc _ (by unfold xcell; omega) (by unfold mcell; omega)⟩) r4
  · unfold Rp at r5 ⊢
    rw [hc 20 (by unfold xcell; omega) (by unfold mcell; omega), hc 21 (by unfold xcell; omega) (by unfold mcell; omega), hc 4 (by unfold xcell; omega) (by unfold mcell; omega), f8]
    exact r5
  · unfold Rk at r6 ⊢
    rw [hc 22 (by unfold xcell; omega) (by unfold mcell; omega)]
    exact r6
  · have hb1 := hI.2.1
    have hb2 := hI.2.2.1
    refine ⟨Ic_congr blk83 hI, by rw [blk83 5 (by omega)]; exact h9, ?_, ?_, ?_⟩
    · refine Rh_congr blk83 (by omega) (by omega) ?_
      exact Rh_cong (fun i hi => hm1 _ (by unfold mcell; omega)) hRh
    · rw [hc 8 (by unfold xcell; omega) (by unfold mcell; omega)]
      unfold Rn at b4 ⊢
      rw [hc 32 (by unfold xcell; omega) (by unfold mcell; omega), blk83 0 (by omega), blk83 1 (by omega), blk83 2 (by omega), h012.1, h012.2.1, h012.2.2]
      rw [blk83 0 (by omega), blk83 1 (by omega), blk83 2 (by omega)] at b4
      exact b4
    · refine Ry_c (c := blk (M 5) 0) (by rw [blk83 1 (by omega), blk83 1 (by omega), h012.2.1]; omega) (by rw [blk83 2 (by omega), blk83 2 (by omega), h012.2.2]) (fun k h1 h2 => ?_) (Ry_cong (fun i hi => hc _ (by unfold xcell; omega) (by unfold mcell; omega)) b5)
      rw [blk0_at h2, blk0_at h2, h83 k h1]
  · refine ⟨n, hn, by rw [h15, hx2 13 (by decide) (by decide) (by decide)]; exact e1, by rw [f24]; exact e2, fun i hi => ?_⟩
    exact Rb_cong (fun k hk => h83 _ (by omega)) (fun k hk => by rw [hc 8 (by unfold xcell; omega) (by unfold mcell; omega)]) (fun j hj => hc _ (by unfold xcell; omega) (by unfold mcell; omega)) (fun j hj => hc _ (by unfold xcell; omega) (by unfold mcell; omega)) (hb i hi)
  · refine ⟨by rw [h15, hx2 19 (by decide) (by decide) (by decide), f34]; exact l1, by rw [f34]; exact l2, fun i hi => ?_⟩
    rw [hc 19 (by unfold xcell; omega) (by unfold mcell; omega), hc 14 (by unfold xcell; omega) (by unfold mcell; omega)]
    exact l3 i hi
theorem Qx_2 {M N : AM} (h : Qx M N) : Qx2 M N := ⟨h.1, fun j h0 _ _ => h.2 j h0⟩
theorem Qm_2 {M N : AM} (h : Qm M N) : Qm2 M N := ⟨h.1, h.2.2.2⟩
/-- nothing of the HOUSE changes; a fraction (n, d) may be told -/
theorem alike_t {fx fm : AM → Option (Int × AM)} (v s : (Nat → Int) → Int) (ok : (Nat → Int) → Bool) (fr : (Nat → Int) → Nat × Nat)
    (hx : ∀ c M, Ic c → c 5 ≤ 9999 → Rh c 23 M → ∃ N, fx M = some (v c, am_upd (if ok c then frU N 15 1 2 (fr c).1 (fr c).2 else N) 15 0 (s c)) ∧ Qx M N ∧ Rh c 23 N)
    (hm : ∀ P, Ic (P 5) → P 5 5 ≤ 9999 → ∃ N, fm P = some (v (P 5), if ok (P 5) then frU N 0 2 3 (fr (P 5)).1 (fr (P 5)).2 else N) ∧ Qm P N ∧ N 5 = P 5 ∧ N 0 0 = s (P 5)) : Alike fx fm := by
  intro M hR
  obtain ⟨h1, h2, h3⟩ := RR_house hR
  obtain ⟨N1, e1, q1, R1⟩ := hx (M 5) M h1 h2 h3
  have u0 : N1 0 = M 0 := q1.1 0 (by unfold xcell; omega)
  have k5 : N1 5 = M 5 := q1.1 5 (by unfold xcell; omega)
  generalize hP : am_upd (if ok (M 5) then frU N1 15 1 2 (fr (M 5)).1 (fr (M 5)).2 else N1) 15 0 (s (M 5)) = P at e1
  have hP15 : ∀ a, a ≠ 15 → P a = N1 a := by
    intro a ha
    rw [← hP, am_upd_cell ha]
    split
    · unfold frU; rw [am_upd_cell ha, am_upd_cell ha]
    · rfl
  have p5 : P 5 = M 5 := (hP15 5 (by decide)).trans k5
  have p0 : P 0 = M 0 := (hP15 0 (by decide)).trans u0
  obtain ⟨N2, e2, q2, R2, s2⟩ := hm P (by rw [p5]; exact h1) (by rw [p5]; exact h2)
  rw [p5] at e2 R2 s2
  generalize hQ : (if ok (M 5) then frU N2 0 2 3 (fr (M 5)).1 (fr (M 5)).2 else N2) = Q at e2
  have hQ0 : ∀ a, a ≠ 0 → Q a = N2 a := by
    intro a ha
    rw [← hQ]
    split
    · unfold frU; rw [am_upd_cell ha, am_upd_cell ha]
    · rfl
  have hQj : ∀ j, j ≠ 2 → j ≠ 3 → Q 0 j = N2 0 j := by
    intro j h2 h3
    rw [← hQ]
    split
    · unfold frU; rw [am_upd_ne (by omega), am_upd_ne (by omega)]
    · rfl
  have c5 : Q 5 = M 5 := (hQ0 5 (by decide)).trans R2
  refine ⟨_, P, Q, e1, e2, RR_mk2 (N1 := P) hR ?_ ?_ (by rw [c5]; exact h1) (by rw [c5]; exact h2) ?_ (by rw [c5]; exact ⟨rfl, rfl, rfl⟩) (by rw [c5]; exact fun _ _ => rfl) ?_ ?_⟩
  · refine ⟨fun a ha => (hP15 a (by rintro rfl; exact ha (Or.inl rfl))).trans (q1.1 a ha), fun j j0 j1 j2 => ?_⟩
    rw [← hP, am_upd_ne (by omega)]
    split
    · unfold frU; rw [am_upd_ne (by omega), am_upd_ne (by omega)]; exact q1.2 j j0
    · exact q1.2 j j0
  · obtain ⟨a1, a2, a3, a4, a5, a6, a7, a8⟩ := q2
    refine ⟨fun a ha => (hQ0 a (by rintro rfl; exact ha (Or.inl rfl))).trans (a1 a ha), ?_, ?_, ?_, ?_, ?_⟩
    · rw [hQj 8 (by decide) (by decide)]; exact a4
    · rw [hQj 10 (by decide) (by decide)]; exact a5
    · rw [hQj 11 (by decide) (by decide)]; exact a6
    · rw [hQj 24 (by decide) (by decide)]; exact a7
    · rw [hQj 34 (by decide) (by decide)]; exact a8
  · rw [c5]
    exact Rh_cong (fun i hi => hP15 _ (by omega)) R1
  · rw [hQj 0 (by decide) (by decide), s2, ← hP, am_upd_self]
  · rw [← hP, ← hQ]
    by_cases g : ok (M 5) = true
    · rw [if_pos g, if_pos g]
      unfold frU
      refine ⟨?_, ?_⟩
      · rw [am_upd_ne (by omega), am_upd_ne (by omega), am_upd_self, am_upd_ne (by omega), am_upd_self]
      · rw [am_upd_ne (by omega), am_upd_self, am_upd_self]
    · rw [if_neg g, if_neg g]
      obtain ⟨a1, a2, a3, _⟩ := q2
      refine ⟨?_, ?_⟩
      · rw [am_upd_ne (by omega), q1.2 1 (by decide), hR.2.1.1, a2, p0]
      · rw [am_upd_ne (by omega), q1.2 2 (by decide), hR.2.1.2, a3, p0]
