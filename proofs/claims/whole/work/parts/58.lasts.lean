/-! LASTS -/
def lW (c : Nat → Int) (s : Nat) : Nat := (c 4).toNat ^ pc s * (16 - (c 4).toNat) ^ (pc (wholeN c) - pc s)
def lB (c : Nat → Int) (k s : Nat) : Bool := decide (s &&& wholeN c = s) && rungB (cW c (dif (wholeN c) s) 0) k
def lStep (c : Nat → Int) (k : Nat) (a s : Nat) : Nat := if lB c k s then a + lW c s else a
def lS (c : Nat → Int) (k i : Nat) : Nat := rg i (lStep c k) 0
theorem lS_succ (c : Nat → Int) (k i : Nat) : lS c k (i + 1) = if lB c k i then lS c k i + lW c i else lS c k i := by unfold lS; rw [rg_succ]; rfl
theorem pow_b {a n : Nat} (ha : a ≤ 16) (hn : n ≤ 10) : a ^ n ≤ 1099511627776 := Nat.le_trans (Nat.pow_le_pow_left ha n) (Nat.le_trans (Nat.pow_le_pow_right (by decide) hn) (by decide))
theorem mul_pow_b {a b x y : Nat} (ha : a ≤ 16) (hb : b ≤ 16) (hn : x + y ≤ 10) : a ^ x * b ^ y ≤ 1099511627776 := by
  have h1 : a ^ x * b ^ y ≤ 16 ^ x * 16 ^ y := Nat.mul_le_mul (Nat.pow_le_pow_left ha x) (Nat.pow_le_pow_left hb y)
  rw [← Nat.pow_add] at h1
  exact Nat.le_trans h1 (pow_b (Nat.le_refl 16) hn)
theorem lW_b {c : Nat → Int} (hI : Ic c) {s : Nat} (h : pc s ≤ pc (wholeN c)) : lW c s ≤ 1099511627776 := by
  have h4 := hI.2.2.2.2.1
  have := pc_le (wholeN c)
  exact mul_pow_b (by omega) (by omega) (by omega)
theorem sub_pc {s u : Nat} (h : s &&& u = s) : pc s ≤ pc u := pc_mono (fun w hw => by
  have e : (s &&& u).testBit w = true := by rw [h]; exact hw
  rw [Nat.testBit_and, Bool.and_eq_true] at e
  exact e.2)
theorem lB_sub {c : Nat → Int} {k s : Nat} (h : lB c k s = true) : s &&& wholeN c = s := by
  unfold lB at h
  rw [Bool.and_eq_true] at h
  exact of_decide_eq_true h.1
theorem lS_b {c : Nat → Int} (hI : Ic c) (k : Nat) : ∀ i, lS c k i ≤ i * 1099511627776
  | 0 => by simp [lS, rg]
  | i + 1 => by
    have h := lS_b hI k i
    rw [lS_succ, Nat.succ_mul]
    cases e : lB c k i
    · simp only [Bool.false_eq_true, if_false]
      exact Nat.le_trans h (Nat.le_add_right _ _)
    · have := lW_b hI (sub_pc (lB_sub e))
      simp only [if_true]
      exact Nat.add_le_add h this
theorem x_pow {a n : Nat} (ha : a ≤ 16) (hn : n ≤ 10) (M : AM) : f_X7_toThePower (a : Int) (n : Int) M = some (((a ^ n : Nat) : Int), M) := by
  unfold f_X7_toThePower
  refine up_loop0 (fun m i (s : Int) => f_X7_toThePower_5 m (a : Int) (n : Int) s (i : Int) M) (fun i => ((a ^ i : Nat) : Int)) n _ 1 (by simp) ?_ ?_ (by omega)
  · intro m i hi
    have hb := pow_b ha (show i + 1 ≤ 10 by omega)
    have e : ((a ^ i : Nat) : Int) * (a : Int) = ((a ^ (i + 1) : Nat) : Int) := by rw [Nat.pow_succ, Int.natCast_mul]
    simp only [f_X7_toThePower_5]
    rw [if_neg (by omega), l_mul_eq (by omega) (by omega), o_succ (by omega), e]
  · intro m
    simp only [f_X7_toThePower_5]
    rw [if_pos (by omega)]
theorem x_lasting {c : Nat → Int} {M : AM} (hI : Ic c) (hR : Rg c 23 M) {k : Nat} (hk : (k : Int) < c 2) : Wp (f_X7_lastingSixteenths (k : Int) M) (fun r => r.1 = ((lS c k (2 ^ (c 1).toNat) : Nat) : Int) ∧ Eo [64] M r.2) := by
  have h1 := hI.2.1
  have h2 := hI.2.2.1
  have h4 := hI.2.2.2.2.1
  have hm := pow_le1024 (n := (c 1).toNat) (by omega)
  have hwn0 : wholeN c < 2 ^ (c 1).toNat := setB_lt _ _
  have hwn : wholeN c < 1024 := lt1024 (n := (c 1).toNat) (by omega) hwn0
  have e3 : M 23 3 = c 1 := hR.1.2.2.2.1
  obtain ⟨q, hq⟩ : ∃ q : Nat, c 4 = (q : Int) := ⟨(c 4).toNat, by omega⟩
  unfold f_X7_lastingSixteenths
  rw [x_whole hR, x_bitCount hwn, bind_s]
  dsimp only
  rw [e3, show c 1 = (((c 1).toNat : Nat) : Int) by omega, o_shl_one' (by omega)]
  refine up_loopP0 (fun n i (s : Int × AM) => f_X7_lastingSixteenths_22 n (k : Int) ((pc (wholeN c) : Nat) : Int) ((2 ^ (c 1).toNat : Nat) : Int) s.1 (i : Int) s.2) (fun i s => s.1 = ((lS c k i : Nat) : Int) ∧ Eo [64] M s.2) _ (2 ^ (c 1).toNat) (0, M) ⟨rfl, Eo_refl _ _⟩ ?_ ?_ (by omega)
  · rintro n i ⟨s, N⟩ hi ⟨g1, hE⟩
    replace g1 : s = ((lS c k i : Nat) : Int) := g1
    replace hE : Eo [64] M N := hE
    have hRN := Rg_64 hE hR
    have e7 : N 23 7 = ((wholeN c : Nat) : Int) := x_whole hRN
    have e1 : N 23 1 = c 4 := hRN.1.2.1
    have hi10 : i < 1024 := by omega
    left
    show ∃ s2 : Int × AM, _ ∧ f_X7_lastingSixteenths_22 (n + 1) (k : Int) ((pc (wholeN c) : Nat) : Int) ((2 ^ (c 1).toNat : Nat) : Int) s (i : Int) N = _
    simp only [f_X7_lastingSixteenths_22, e7]
    rw [if_neg (by omega)]
    simp only [o_sub0 hi10 hwn]
    by_cases g : i &&& wholeN c = i
    · have hpc := sub_pc g
      have hpw := pc_le (wholeN c)
      have hlw := lW_b hI hpc
      have hls := lS_b hI k i
      have eW : ((q ^ pc i : Nat) : Int) * (((16 - q) ^ (pc (wholeN c) - pc i) : Nat) : Int) = ((lW c i : Nat) : Int) := by unfold lW; rw [hq, tnc, Int.natCast_mul]
      rw [if_neg (fun h => h g), x_bitCount hi10, bind_s]
      dsimp only
      rw [e1, hq, x_pow (by omega) (by omega), bind_s]
      dsimp only
      rw [e1, hq, o_sub_eq (x := 16) (by omega) (by omega), o_sub_eq (by omega) (by omega), show (16 : Int) - (q : Int) = ((16 - q : Nat) : Int) by omega, show ((pc (wholeN c) : Nat) : Int) - ((pc i : Nat) : Int) = ((pc (wholeN c) - pc i : Nat) : Int) by omega, x_pow (by omega) (by omega), bind_s]
      dsimp only
      rw [l_mul_eq (by omega) (by omega), eW, o_succ (by omega)]
      simp only [l_cmp_le]
      by_cases gz : ((lW c i : Nat) : Int) ≤ 0
      · rw [if_pos gz]
        refine ⟨(s, N), ⟨?_, hE⟩, rfl⟩
        show s = ((lS c k (i + 1) : Nat) : Int)
        rw [g1, lS_succ]
        cases lB c k i
        · rfl
        · simp only [if_true]; omega
      · rw [if_neg gz, if_pos (by omega)]
        simp only [tnc, e7]
        rw [o_dif hwn hi10]
        obtain ⟨N2, e, hE2⟩ := x_carryK hI hRN (dif_lt (n := 10) (b := i) hwn) (show 0 < 1024 by omega) hk
        rw [show ((0 : Nat) : Int) = 0 from rfl] at e
        rw [e, bind_s]
        dsimp only
        have hlb : lB c k i = rungB (cW c (dif (wholeN c) i) 0) k := by unfold lB; rw [decide_eq_true g]; rfl
        cases hrb : rungB (cW c (dif (wholeN c) i) 0) k
        · simp only [Bool.false_eq_true, if_false, if_true]
          refine ⟨(s, N2), ⟨?_, Eo_trans hE hE2⟩, rfl⟩
          show s = ((lS c k (i + 1) : Nat) : Int)
          rw [g1, lS_succ, hlb, hrb]; rfl
        · simp only [if_true, i10, if_false]
          rw [g1, l_add_eq (by omega) (by omega)]
          refine ⟨(((lS c k i : Nat) : Int) + ((lW c i : Nat) : Int), N2), ⟨?_, Eo_trans hE hE2⟩, rfl⟩
          show ((lS c k i : Nat) : Int) + ((lW c i : Nat) : Int) = ((lS c k (i + 1) : Nat) : Int)
          rw [lS_succ, hlb, hrb]
          simp only [if_true]
          omega
    · rw [if_pos g, o_succ (by omega)]
      refine ⟨(s, N), ⟨?_, hE⟩, rfl⟩
      show s = ((lS c k (i + 1) : Nat) : Int)
      have hlb : lB c k i = false := by unfold lB; rw [decide_eq_false g]; rfl
      rw [g1, lS_succ, hlb]; rfl
  · rintro n ⟨s, N⟩ ⟨g1, hE⟩
    show Wp (f_X7_lastingSixteenths_22 (n + 1) (k : Int) ((pc (wholeN c) : Nat) : Int) ((2 ^ (c 1).toNat : Nat) : Int) s (((2 ^ (c 1).toNat : Nat)) : Int) N) _
    simp only [f_X7_lastingSixteenths_22]
    rw [if_pos (by omega)]
    exact wp_some ⟨g1, hE⟩
theorem lS_top {c : Nat → Int} {k : Nat} : ∀ d, lS c k (wholeN c + 1 + d) = lS c k (wholeN c + 1)
  | 0 => rfl
  | d + 1 => by
    rw [show wholeN c + 1 + (d + 1) = (wholeN c + 1 + d) + 1 by omega, lS_succ]
    have hlb : lB c k (wholeN c + 1 + d) = false := by
      cases e : lB c k (wholeN c + 1 + d)
      · rfl
      · have h := lB_sub e
        have := Nat.and_le_right (n := wholeN c + 1 + d) (m := wholeN c)
        omega
    rw [hlb]
    exact lS_top d
theorem lS_all {c : Nat → Int} {k : Nat} : lS c k (2 ^ (c 1).toNat) = lS c k (wholeN c + 1) := by
  have hwn0 : wholeN c < 2 ^ (c 1).toNat := setB_lt _ _
  rw [show 2 ^ (c 1).toNat = wholeN c + 1 + (2 ^ (c 1).toNat - (wholeN c + 1)) by omega, lS_top]
