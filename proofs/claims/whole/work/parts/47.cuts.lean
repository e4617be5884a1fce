/-! CUTS, HANGS, VITAL -/
def dif (a b : Nat) : Nat := a ^^^ (a &&& b)
theorem dif_bit (a b i : Nat) : (dif a b).testBit i = (a.testBit i && !b.testBit i) := by
  unfold dif
  rw [Nat.testBit_xor, Nat.testBit_and]
  cases a.testBit i <;> cases b.testBit i <;> rfl
theorem dif_lt {a b n : Nat} (h : a < 2 ^ n) : dif a b < 2 ^ n := Nat.xor_lt_two_pow h (and_lt h)
theorem o_dif {a b : Nat} (ha : a < 1024) (hb : b < 1024) : o_and (a : Int) (o_xor (b : Int) (-1)) = ((dif a b : Nat) : Int) := o_andn_nat (by omega) (by omega)
def cutV (c : Nat → Int) (s i : Nat) : Nat → Int := fun j => if 37 ≤ j ∧ j < 47 ∧ j - 37 < i ∧ s.testBit (j - 37) = true then 0 else c j
theorem cutV_lo {c : Nat → Int} {s i j : Nat} (h : j < 37 ∨ 47 ≤ j) : cutV c s i j = c j := by unfold cutV; rw [if_neg (by omega)]
theorem cutV_wh {c : Nat → Int} {s i w : Nat} (h : w < 10) : cutV c s i (37 + w) = if w < i ∧ s.testBit w = true then 0 else c (37 + w) := by
  unfold cutV
  rw [Nat.add_sub_cancel_left]
  by_cases g : w < i ∧ s.testBit w = true
  · rw [if_pos ⟨by omega, by omega, g.1, g.2⟩, if_pos g]
  · rw [if_neg (fun h => g ⟨h.2.2.1, h.2.2.2⟩), if_neg g]
theorem cutV_succ {c : Nat → Int} {s i : Nat} (hi : i < 10) (hb : s.testBit i = true) : cutV c s (i + 1) = cset (cutV c s i) (37 + i) 0 := by
  funext j
  unfold cset
  by_cases e2 : j = 37 + i
  · subst e2
    rw [if_pos rfl, cutV_wh hi, if_pos ⟨by omega, hb⟩]
  · rw [if_neg e2]
    unfold cutV
    by_cases g : 37 ≤ j ∧ j < 47 ∧ j - 37 < i ∧ s.testBit (j - 37) = true
    · rw [if_pos g, if_pos ⟨g.1, g.2.1, by omega, g.2.2.2⟩]
    · rw [if_neg g, if_neg (fun h => g ⟨h.1, h.2.1, by omega, h.2.2.2⟩)]
theorem cutV_skip {c : Nat → Int} {s i : Nat} (hb : s.testBit i = false) : cutV c s (i + 1) = cutV c s i := by
  funext j
  unfold cutV
  by_cases g : 37 ≤ j ∧ j < 47 ∧ j - 37 < i ∧ s.testBit (j - 37) = true
  · rw [if_pos g, if_pos ⟨g.1, g.2.1, by omega, g.2.2.2⟩]
  · have g' : ¬ (37 ≤ j ∧ j < 47 ∧ j - 37 < i + 1 ∧ s.testBit (j - 37) = true) := by
      rintro ⟨h1, h2, h3, h4⟩
      by_cases e : j - 37 = i
      · rw [e, hb] at h4; cases h4
      · exact g ⟨h1, h2, by omega, h4⟩
    rw [if_neg g, if_neg g']
theorem Ic_cutV {c : Nat → Int} (hI : Ic c) (s i : Nat) : Ic (cutV c s i) := by
  have h1 := hI.2.1
  refine Ic_wires hI (fun j hj => cutV_lo (by omega)) (fun w hw => ?_)
  have hIw := Ic_w hI hw
  rw [cutV_lo (by omega), cutV_wh (by omega)]
  refine ⟨hIw.2.2.1, ?_⟩
  split
  · exact Or.inl rfl
  · exact hIw.2.2.2
theorem fD_cutV {c : Nat → Int} (hI : Ic c) (s : Nat) : fD (cutV c s (c 1).toNat) = fD (cW c (dif (wholeN c) s) 0) := by
  have h1 := hI.2.1
  refine fD_cong ?_ ?_ (fun w hw => ⟨?_, ?_, ?_, ?_⟩)
  · rw [cutV_lo (by omega), cW_lo c _ _ (by omega)]
  · rw [cutV_lo (by omega), cW_lo c _ _ (by omega)]
  · rw [cW_lo c _ _ (j := 1) (by omega)] at hw
    rw [cutV_lo (by omega), cW_lo c _ _ (by omega)]
  · rw [cW_lo c _ _ (j := 1) (by omega)] at hw
    rw [cutV_lo (by omega), cW_lo c _ _ (by omega)]
  · rw [cW_lo c _ _ (j := 1) (by omega)] at hw
    rw [cutV_lo (by omega), cW_md c _ _ (by omega), Nat.zero_testBit]
    rfl
  · rw [cW_lo c _ _ (j := 1) (by omega)] at hw
    have hIw := Ic_w hI hw
    have hwl : w < (c 1).toNat := by omega
    rw [cutV_wh (by omega), cW_wh c _ _ (by omega), dif_bit, whole_bit hwl]
    cases hb : s.testBit w
    · by_cases g : c (37 + w) = 1
      · simp [g]
      · have g2 : c (37 + w) = 0 := by omega
        simp [g2]
    · simp [hwl]
/-- a set cut: nothing is heard -/
def cQ (c : Nat → Int) (p q : Int) (s : Nat) : Bool := !decide (FD (cW c (dif (wholeN c) s) 0) p q ≤ c 3)
theorem cQ_whole {c : Nat → Int} (hI : Ic c) {p q : Int} (hp : 0 ≤ p ∧ p < c 0) (hq : 0 ≤ q ∧ q < c 0) (hne : p ≠ q) : cQ c p q (wholeN c) = true := by
  have h3 := hI.2.2.2.1
  have e0 : dif (wholeN c) (wholeN c) = 0 := by unfold dif; rw [Nat.and_self, Nat.xor_self]
  have hI2 := Ic_cW hI 0 0
  have key : (1000 : Int) ≤ fD (cW c 0 0) p.toNat q.toNat := by
    have := fD_feas hI2 (f := fun x => if x = p.toNat then 0 else 1000) (p := p.toNat) (q := q.toNat) ?_ ?_ (by rw [cW_lo c _ _ (by omega)]; omega) (by rw [cW_lo c _ _ (by omega)]; omega)
    · have e1 : ¬ q.toNat = p.toNat := by omega
      simpa [e1] using this
    · intro a b _ _
      show (if b = p.toNat then (0 : Int) else 1000) - (if a = p.toNat then 0 else 1000) ≤ 1000
      split <;> split <;> omega
    · intro w u v hj
      obtain ⟨_, h, _⟩ := (cW_jn hI).mp hj
      rw [Nat.zero_testBit] at h
      cases h
  unfold cQ FD
  rw [e0]
  have : ¬ fD (cW c 0 0) p.toNat q.toNat ≤ c 3 := by omega
  simp [this]
def stepC (Q : Nat → Bool) (wh : Nat) (best s : Nat) : Nat := if ¬ s &&& wh = s then best else if pc best < pc s then best else if pc s = pc best ∧ ¬ s < best then best else if Q s then s else best
def cutF (c : Nat → Int) (p q : Int) : Nat := rg (wholeN c + 1) (stepC (cQ c p q) (wholeN c)) (wholeN c)
theorem stepC_inv {Q : Nat → Bool} {wh : Nat} (hq : Q wh = true) : ∀ m, rg m (stepC Q wh) wh ≤ wh ∧ rg m (stepC Q wh) wh &&& wh = rg m (stepC Q wh) wh ∧ Q (rg m (stepC Q wh) wh) = true ∧ ∀ s, s < m → s &&& wh = s ∧ Q s = true → pc (rg m (stepC Q wh) wh) < pc s ∨ pc (rg m (stepC Q wh) wh) = pc s ∧ rg m (stepC Q wh) wh ≤ s := by
  intro m
  induction m with
  | zero => exact ⟨Nat.le_refl _, Nat.and_self _, hq, fun s h => by omega⟩
  | succ m ih =>
    rw [rg_succ]
    generalize rg m (stepC Q wh) wh = b at ih
    obtain ⟨h1, h2, h3, h4⟩ := ih
    unfold stepC
    by_cases g1 : m &&& wh = m
    · rw [if_neg (fun h => h g1)]
      by_cases g2 : pc b < pc m
      · rw [if_pos g2]
        refine ⟨h1, h2, h3, fun s hs hp => ?_⟩
        by_cases e : s = m
        · subst e; exact Or.inl g2
        · exact h4 s (by omega) hp
      · rw [if_neg g2]
        by_cases g3 : pc m = pc b ∧ ¬ m < b
        · rw [if_pos g3]
          refine ⟨h1, h2, h3, fun s hs hp => ?_⟩
          by_cases e : s = m
          · subst e; omega
          · exact h4 s (by omega) hp
        · rw [if_neg g3]
          cases hqm : Q m
          · simp only [Bool.false_eq_true, if_false]
            refine ⟨h1, h2, h3, fun s hs hp => ?_⟩
            by_cases e : s = m
            · subst e; rw [hqm] at hp; exact absurd hp.2 (by decide)
            · exact h4 s (by omega) hp
          · simp only [if_true]
            refine ⟨by rw [← g1]; exact Nat.and_le_right, g1, hqm, fun s hs hp => ?_⟩
            by_cases e : s = m
            · subst e; exact Or.inr ⟨rfl, Nat.le_refl _⟩
            · have := h4 s (by omega) hp
              omega
    · rw [if_pos g1]
      refine ⟨h1, h2, h3, fun s hs hp => ?_⟩
      by_cases e : s = m
      · subst e; exact absurd hp.1 g1
      · exact h4 s (by omega) hp
theorem cutF_L {c : Nat → Int} (hI : Ic c) {p q : Int} (hp : 0 ≤ p ∧ p < c 0) (hq : 0 ≤ q ∧ q < c 0) (hne : p ≠ q) : Least (fun s => s &&& wholeN c = s ∧ cQ c p q s = true) (2 ^ (c 1).toNat) (cutF c p q) := by
  obtain ⟨h1, h2, h3, h4⟩ := stepC_inv (cQ_whole hI hp hq hne) (wholeN c + 1)
  have hw : wholeN c < 2 ^ (c 1).toNat := setB_lt _ _
  refine ⟨⟨h2, h3⟩, Nat.lt_of_le_of_lt h1 hw, fun s hs hp2 => h4 s ?_ hp2⟩
  have : s ≤ wholeN c := by rw [← hp2.1]; exact Nat.and_le_right
  omega
/-- the search of leastCuts -/
theorem x_cutSearch {c : Nat → Int} {M : AM} (hI : Ic c) (hR : Rg c 23 M) {p q : Int} (hp : 0 ≤ p ∧ p < c 0) (hq : 0 ≤ q ∧ q < c 0) :
    Wp (f_X7_leastCuts_11 zB p q ((2 ^ (c 1).toNat : Nat) : Int) 0 M) (fun r => Eo [64] M r.2 ∧
      ((∃ x : Nat, r.1 = (x : Int) ∧ Least (fun s => s &&& wholeN c = s ∧ cQ c p q s = true) (2 ^ (c 1).toNat) x) ∨
       (r.1 = ((wholeN c : Nat) : Int) ∧ ∀ s, s < 2 ^ (c 1).toNat → s &&& wholeN c = s ∧ cQ c p q s = true → (c 1).toNat ≤ pc s))) := by
  have h1 := hI.2.1
  have hm := pow_le1024 (n := (c 1).toNat) (by omega)
  have hwn0 : wholeN c < 2 ^ (c 1).toNat := setB_lt _ _
  have hwn : wholeN c < 1024 := lt1024 (n := (c 1).toNat) (by omega) hwn0
  refine up_loopP0 (fun n i (s : AM) => f_X7_leastCuts_11 n p q ((2 ^ (c 1).toNat : Nat) : Int) (i : Int) s)
    (fun i s => Eo [64] M s ∧ ∀ x, x < 2 ^ (c 1).toNat → x &&& wholeN c = x ∧ cQ c p q x = true → i ≤ pc x) _ (c 1).toNat M ⟨Eo_refl _ _, fun _ _ _ => Nat.zero_le _⟩ ?_ ?_ (by omega)
  · rintro n i N hi ⟨hE, hinv⟩
    have e3 : N 23 3 = c 1 := (Rg_64 hE hR).1.2.2.2.1
    show (∃ s2 : AM, _ ∧ f_X7_leastCuts_11 (n + 1) p q ((2 ^ (c 1).toNat : Nat) : Int) (i : Int) N = _) ∨ Wp (f_X7_leastCuts_11 (n + 1) p q ((2 ^ (c 1).toNat : Nat) : Int) (i : Int) N) _
    simp only [f_X7_leastCuts_11]
    rw [if_neg (by omega)]
    refine up_loopE0 (fun m j (s : AM) => f_X7_leastCuts_23 (f_X7_leastCuts_11 n) m p q ((2 ^ (c 1).toNat : Nat) : Int) (i : Int) (j : Int) s)
      (fun j s => Eo [64] M s ∧ ∀ x, x < j → x &&& wholeN c = x ∧ cQ c p q x = true → i < pc x)
      (fun o => (∃ s2 : AM, (Eo [64] M s2 ∧ ∀ x, x < 2 ^ (c 1).toNat → x &&& wholeN c = x ∧ cQ c p q x = true → i + 1 ≤ pc x) ∧ o = f_X7_leastCuts_11 n p q ((2 ^ (c 1).toNat : Nat) : Int) ((i + 1 : Nat) : Int) s2) ∨ Wp o _)
      (2 ^ (c 1).toNat) N ⟨hE, fun x h => by omega⟩ ?_ ?_ (by omega)
    · rintro m j N2 hj ⟨hE2, hinv2⟩
      have hR2 := Rg_64 hE2 hR
      have e7 : N2 23 7 = ((wholeN c : Nat) : Int) := x_whole hR2
      show (∃ s2 : AM, _ ∧ f_X7_leastCuts_23 (f_X7_leastCuts_11 n) (m + 1) p q ((2 ^ (c 1).toNat : Nat) : Int) (i : Int) (j : Int) N2 = _) ∨ ((∃ s2 : AM, _ ∧ f_X7_leastCuts_23 (f_X7_leastCuts_11 n) (m + 1) p q ((2 ^ (c 1).toNat : Nat) : Int) (i : Int) (j : Int) N2 = _) ∨ Wp (f_X7_leastCuts_23 (f_X7_leastCuts_11 n) (m + 1) p q ((2 ^ (c 1).toNat : Nat) : Int) (i : Int) (j : Int) N2) _)
      simp only [f_X7_leastCuts_23, e7]
      rw [if_neg (by omega)]
      have hnext : ∀ N3, Eo [64] M N3 → ¬ (j &&& wholeN c = j ∧ cQ c p q j = true ∧ pc j = i) → ∃ s2 : AM, (Eo [64] M s2 ∧ ∀ x, x < j + 1 → x &&& wholeN c = x ∧ cQ c p q x = true → i < pc x) ∧ f_X7_leastCuts_23 (f_X7_leastCuts_11 n) m p q ((2 ^ (c 1).toNat : Nat) : Int) (i : Int) (o_add (j : Int) 1) N3 = f_X7_leastCuts_23 (f_X7_leastCuts_11 n) m p q ((2 ^ (c 1).toNat : Nat) : Int) (i : Int) ((j + 1 : Nat) : Int) s2 := by
        intro N3 hE3 hno
        refine ⟨N3, ⟨hE3, fun x hx hp => ?_⟩, by rw [o_succ (by omega)]⟩
        by_cases e : x = j
        · subst e
          have := hinv x hj hp
          have : ¬ pc x = i := fun h => hno ⟨hp.1, hp.2, h⟩
          omega
        · exact hinv2 x (by omega) hp
      by_cases g1 : j &&& wholeN c = j
      · rw [if_neg (fun h => h ((o_sub0 (by omega) hwn).mpr g1)), x_bitCount (by omega), bind_s]
        dsimp only
        by_cases g2 : pc j = i
        · have hor : o_and (N2 23 7) (o_xor (j : Int) (-1)) = ((dif (wholeN c) j : Nat) : Int) := by rw [e7, o_dif hwn (by omega)]
          have hlt : dif (wholeN c) j < 1024 := dif_lt (n := 10) hwn
          rw [if_neg (fun h => h (by omega)), hor]
          obtain ⟨N3, e, hE3⟩ := x_carries hI hR2 hlt (show 0 < 1024 by omega) hp hq
          rw [show ((0 : Nat) : Int) = 0 from rfl] at e
          rw [e, bind_s]
          dsimp only
          by_cases g3 : FD (cW c (dif (wholeN c) j) 0) p q ≤ c 3
          · left
            rw [if_pos g3, if_pos (by decide)]
            exact hnext N3 (Eo_trans hE2 hE3) (fun h => by have := h.2.1; simp [cQ, g3] at this)
          · right
            right
            rw [if_neg g3, if_neg (by decide)]
            refine wp_some ⟨Eo_trans hE2 hE3, Or.inl ⟨j, rfl, ⟨g1, by simp [cQ, g3]⟩, hj, fun s hs hp => ?_⟩⟩
            have a1 := hinv s hs hp
            by_cases e2 : s < j
            · have := hinv2 s e2 hp; omega
            · omega
        · left
          rw [if_pos (by omega)]
          exact hnext N2 hE2 (fun h => g2 h.2.2)
      · left
        rw [if_pos (fun h => g1 ((o_sub0 (by omega) hwn).mp h))]
        exact hnext N2 hE2 (fun h => g1 h.1)
    · rintro m N2 ⟨hE2, hinv2⟩
      left
      show ∃ s2 : AM, _ ∧ f_X7_leastCuts_23 (f_X7_leastCuts_11 n) (m + 1) p q ((2 ^ (c 1).toNat : Nat) : Int) (i : Int) ((2 ^ (c 1).toNat : Nat) : Int) N2 = _
      simp only [f_X7_leastCuts_23]
      rw [if_pos (Int.le_refl _), o_succ (by omega)]
      exact ⟨N2, ⟨hE2, fun x hx hp => hinv2 x hx hp⟩, rfl⟩
  · rintro n N ⟨hE, hinv⟩
    have hRN := Rg_64 hE hR
    have e3 : N 23 3 = c 1 := hRN.1.2.2.2.1
    show Wp (f_X7_leastCuts_11 (n + 1) p q ((2 ^ (c 1).toNat : Nat) : Int) (((c 1).toNat : Nat) : Int) N) _
    simp only [f_X7_leastCuts_11]
    rw [if_pos (by omega)]
    exact wp_some ⟨hE, Or.inr ⟨x_whole hRN, hinv⟩⟩
theorem x_leastCuts {c : Nat → Int} {M : AM} (hI : Ic c) (hR : Rg c 23 M) {p q : Int} (hp : 0 ≤ p ∧ p < c 0) (hq : 0 ≤ q ∧ q < c 0) (hne : p ≠ q) : Wp (f_X7_leastCuts p q M) (fun r => r.1 = ((cutF c p q : Nat) : Int) ∧ Eo [64] M r.2) := by
  have h1 := hI.2.1
  have hwn0 : wholeN c < 2 ^ (c 1).toNat := setB_lt _ _
  have hL := cutF_L hI hp hq hne
  unfold f_X7_leastCuts
  rw [hR.1.2.2.2.1, (shl1_b (n := c 1) (by omega)).1]
  refine wp_mono (x_cutSearch hI hR hp hq) ?_
  rintro ⟨z, N⟩ ⟨hE, hz⟩
  refine ⟨?_, hE⟩
  show z = _
  rcases hz with ⟨x, hx, hLx⟩ | ⟨hx, hall⟩
  · replace hx : z = (x : Int) := hx
    rw [hx, Least_eq hLx hL]
  · replace hx : z = ((wholeN c : Nat) : Int) := hx
    rw [hx]
    have a1 := hall (cutF c p q) hL.2.1 hL.1
    have a3 := (pc_top (n := (c 1).toNat) (by omega) hL.2.1).2 a1
    have : wholeN c = cutF c p q := by
      apply Nat.eq_of_testBit_eq
      intro i
      by_cases hi : i < (c 1).toNat
      · rw [a3 i hi, testBit_sub hL.1.1 (a3 i hi)]
      · rw [nat_lt_bit hwn0 (by omega), nat_lt_bit hL.2.1 (by omega)]
    rw [this]
theorem m_cut77 {c : Nat → Int} {P : AM} (hI : Ic c) (h5 : P 5 = c) (k23 : Int → Int → Int → Int → Int → AM → Option (Int × AM)) {s : Nat} (hs : s < 1024) (p q w b : Int) :
    f_X11_cutting_77 k23 zB p q w b (s : Int) 0 P = (f_X11_laysFar (am_row P 5 (cutV c s (c 1).toNat))).bind fun x1 => (f_X11_isHeard p q x1).bind fun x2 => if ¬ x2.1 = 0 then f_X11_cutting_132 k23 p q w b (s : Int) x2.2 else f_X11_cutting_132 k23 p q w (s : Int) (s : Int) x2.2 := by
  have h1 := hI.2.1
  have e0 : am_row P 5 (cutV c s 0) = P := am_row_id _ _ _ (by rw [h5]; funext j; unfold cutV; rw [if_neg (by omega)])
  refine up_loop0 (fun n i st => f_X11_cutting_77 k23 n p q w b (s : Int) (i : Int) st) (fun i => am_row P 5 (cutV c s i)) (c 1).toNat _ P e0 ?_ ?_ (by omega)
  · intro n i hi
    have hr1 : cutV c s i 1 = c 1 := cutV_lo (by omega)
    simp only [f_X11_cutting_77, am_row_self, tn1]
    rw [if_neg (by omega), m_has hs (by omega), bind_s]
    dsimp only
    cases hb : s.testBit i
    · simp only [Bool.false_eq_true, if_false, if_true]
      rw [o_succ (by omega), cutV_skip hb]
    · simp only [if_true, i10, if_false]
      simp (disch := omega) only [o_add_eq (x := 37), tp37]
      rw [if_pos (by omega), zlet_eq, o_succ (by omega), am_row_upd, cutV_succ (by omega) hb]
      rfl
  · intro n
    have hr1 : cutV c s (c 1).toNat 1 = c 1 := cutV_lo (by omega)
    simp only [f_X11_cutting_77, am_row_self, tn1]
    rw [if_pos (by omega)]
theorem m_cutting {M : AM} (hI : Ic (M 5)) {p q : Int} (hp : 0 ≤ p ∧ p < M 5 0) (hq : 0 ≤ q ∧ q < M 5 0) (hne : p ≠ q) : Wp (f_X11_cutting p q M) (fun r => r.1 = ((cutF (M 5) p q : Nat) : Int) ∧ r.2 5 = M 5 ∧ Eo [5, 6, 9] M r.2) := by
  have h1 := hI.2.1
  have h0 := hI.1
  have hwn0 : wholeN (M 5) < 2 ^ (M 5 1).toNat := setB_lt _ _
  have hwn : wholeN (M 5) < 1024 := lt1024 (n := (M 5 1).toNat) (by omega) hwn0
  obtain ⟨M3, e3, hA, h35, hE3⟩ := m_puts' M
  unfold f_X11_cutting
  rw [tn1, m_whole hI, bind_s]
  dsimp only
  rw [e3, bind_s]
  refine up_loopP0 (fun n i (s : Nat × AM) => f_X11_cutting_23 n p q ((wholeN (M 5) : Nat) : Int) (s.1 : Int) (i : Int) s.2) (fun i s => s.1 = rg i (stepC (cQ (M 5) p q) (wholeN (M 5))) (wholeN (M 5)) ∧ Aside (M 5) s.2 ∧ s.2 5 = M 5 ∧ Eo [5, 6, 9] M s.2) _ (wholeN (M 5) + 1) (wholeN (M 5), M3) ⟨rfl, hA, h35, Eo_sub hE3 (by simp)⟩ ?_ ?_ (by omega)
  · rintro n i ⟨b, N⟩ hi ⟨g0, g1, g2, g3⟩
    replace g0 : b = rg i (stepC (cQ (M 5) p q) (wholeN (M 5))) (wholeN (M 5)) := g0
    replace g1 : Aside (M 5) N := g1
    replace g2 : N 5 = M 5 := g2
    replace g3 : Eo [5, 6, 9] M N := g3
    have hb := stepC_inv (cQ_whole hI hp hq hne) i
    rw [← g0] at hb
    left
    show ∃ s2 : Nat × AM, _ ∧ f_X11_cutting_23 (n + 1) p q ((wholeN (M 5) : Nat) : Int) (b : Int) (i : Int) N = _
    simp only [f_X11_cutting_23]
    rw [if_neg (by omega)]
    have hstep : rg (i + 1) (stepC (cQ (M 5) p q) (wholeN (M 5))) (wholeN (M 5)) = stepC (cQ (M 5) p q) (wholeN (M 5)) b i := by rw [rg_succ, ← g0]
    have hskip : stepC (cQ (M 5) p q) (wholeN (M 5)) b i = b → ∃ s2 : Nat × AM, (s2.1 = rg (i + 1) (stepC (cQ (M 5) p q) (wholeN (M 5))) (wholeN (M 5)) ∧ Aside (M 5) s2.2 ∧ s2.2 5 = M 5 ∧ Eo [5, 6, 9] M s2.2) ∧ f_X11_cutting_23 n p q ((wholeN (M 5) : Nat) : Int) (b : Int) (o_add (i : Int) 1) N = f_X11_cutting_23 n p q ((wholeN (M 5) : Nat) : Int) (s2.1 : Int) ((i + 1 : Nat) : Int) s2.2 := by
      intro h
      exact ⟨(b, N), ⟨by rw [hstep, h], g1, g2, g3⟩, by rw [o_succ (by omega)]⟩
    have hdo : stepC (cQ (M 5) p q) (wholeN (M 5)) b i = (if cQ (M 5) p q i then i else b) → ∃ s2 : Nat × AM, (s2.1 = rg (i + 1) (stepC (cQ (M 5) p q) (wholeN (M 5))) (wholeN (M 5)) ∧ Aside (M 5) s2.2 ∧ s2.2 5 = M 5 ∧ Eo [5, 6, 9] M s2.2) ∧ f_X11_cutting_77 (f_X11_cutting_23 n) zB p q ((wholeN (M 5) : Nat) : Int) (b : Int) (i : Int) 0 N = f_X11_cutting_23 n p q ((wholeN (M 5) : Nat) : Int) (s2.1 : Int) ((i + 1 : Nat) : Int) s2.2 := by
      intro hno
      have hIm := Ic_cutV hI i (M 5 1).toNat
      have hrow : am_row N 5 (cutV (M 5) i (M 5 1).toNat) 5 = cutV (M 5) i (M 5 1).toNat := am_row_self _ _ _
      rw [m_cut77 hI g2 _ (by omega), m_laysFar (by rw [hrow]; exact hIm), bind_s]
      have hLf := Lf_LF (am_row N 5 (cutV (M 5) i (M 5 1).toNat))
      generalize hL : LF (am_row N 5 (cutV (M 5) i (M 5 1).toNat)) = L at hLf
      have hL5 : L 5 = cutV (M 5) i (M 5 1).toNat := by rw [← hL, LF5, hrow]
      have hL3 : L 5 3 = M 5 3 := by rw [hL5]; exact cutV_lo (by omega)
      have hLE : Eo [5, 9] N L := by rw [← hL]; exact Eo_trans (Eo_row _ (by simp) (Eo_refl _ _)) (Eo_sub (LF_Eo _) (by simp))
      have hLA : Aside (M 5) L := fun j hj => by rw [hLE 6 (by simp)]; exact g1 j hj
      obtain ⟨N2, e2, e25, hE2⟩ := m_gives' hLA (fun j hj => by rw [hL5]; exact cutV_lo (by omega))
      have hA2 : Aside (M 5) N2 := fun j hj => by rw [hE2 6 (by simp)]; exact hLA j hj
      have hEE : Eo [5, 6, 9] M N2 := Eo_trans g3 (Eo_trans (Eo_sub hLE (by simp)) (Eo_sub hE2 (by simp)))
      rw [hrow] at hLf
      rw [m_isHeard hLf (by omega) (by omega), bind_s, hL3]
      dsimp only
      have eF : FD (cutV (M 5) i (M 5 1).toNat) p q = FD (cW (M 5) (dif (wholeN (M 5)) i) 0) p q := by unfold FD; rw [fD_cutV hI]
      rw [eF, hstep, hno]
      unfold f_X11_cutting_132
      rw [e2]
      simp only [bind_s]
      rw [o_succ (by omega)]
      by_cases g : FD (cW (M 5) (dif (wholeN (M 5)) i) 0) p q ≤ M 5 3
      · have hq2 : cQ (M 5) p q i = false := by simp [cQ, g]
        rw [hq2, if_pos g]
        simp only [Bool.false_eq_true, if_false, i10, not_false_eq_true, if_true]
        exact ⟨(b, N2), ⟨rfl, hA2, e25, hEE⟩, rfl⟩
      · have hq2 : cQ (M 5) p q i = true := by simp [cQ, g]
        rw [hq2, if_neg g]
        simp only [if_true, not_true_eq_false, if_false]
        exact ⟨(i, N2), ⟨rfl, hA2, e25, hEE⟩, rfl⟩
    by_cases c1 : i &&& wholeN (M 5) = i
    · rw [if_neg (fun h => h ((o_sub0 (by omega) hwn).mpr c1)), m_sizeOf' (by omega), bind_s]
      dsimp only
      rw [m_sizeOf' (by omega), bind_s]
      dsimp only
      by_cases c2 : pc b < pc i
      · rw [if_pos (by omega)]
        exact hskip (by unfold stepC; rw [if_neg (fun h => h c1), if_pos c2])
      · rw [if_neg (by omega), m_sizeOf' (by omega), bind_s]
        dsimp only
        rw [m_sizeOf' (by omega), bind_s]
        dsimp only
        by_cases c3 : pc i = pc b
        · rw [if_neg (fun h => h (by omega))]
          by_cases c4 : i < b
          · rw [if_pos (by omega)]
            exact hdo (by unfold stepC; rw [if_neg (fun h => h c1), if_neg c2, if_neg (fun h => h.2 c4)])
          · rw [if_neg (by omega)]
            exact hskip (by unfold stepC; rw [if_neg (fun h => h c1), if_neg c2, if_pos ⟨c3, c4⟩])
        · rw [if_pos (by omega)]
          exact hdo (by unfold stepC; rw [if_neg (fun h => h c1), if_neg c2, if_neg (fun h => c3 h.1)])
    · rw [if_pos (fun h => c1 ((o_sub0 (by omega) hwn).mp h))]
      exact hskip (by unfold stepC; rw [if_pos c1])
  · rintro n ⟨b, N⟩ ⟨g0, g1, g2, g3⟩
    replace g0 : b = _ := g0
    show Wp (f_X11_cutting_23 (n + 1) p q ((wholeN (M 5) : Nat) : Int) (b : Int) ((wholeN (M 5) + 1 : Nat) : Int) N) _
    simp only [f_X11_cutting_23]
    rw [if_pos (by omega)]
    refine wp_some ⟨?_, g2, g3⟩
    show (b : Int) = _
    rw [g0]
    rfl
