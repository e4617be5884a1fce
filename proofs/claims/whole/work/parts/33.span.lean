/-! the class's Days: many DAYS at once -/
def dayN (c : Nat → Int) : Nat → (Nat → Int)
  | 0 => c
  | t + 1 => dayF (dayN c t)
theorem dayN_lo {c : Nat → Int} {j : Nat} (h5 : j ≠ 5) (h : j < 27 ∨ 37 ≤ j ∧ j < 59 ∨ 83 ≤ j) : ∀ t, dayN c t j = c j
  | 0 => rfl
  | t + 1 => by
    show dayF (dayN c t) j = c j
    rw [dayF_lo h5 h]
    exact dayN_lo h5 h t
theorem dayN_5 (c : Nat → Int) : ∀ t : Nat, dayN c t 5 = c 5 + (t : Int)
  | 0 => by simp [dayN]
  | t + 1 => by
    show dayF (dayN c t) 5 = _
    rw [dayF_5, dayN_5 c t]
    omega
theorem Ic_dayN {c : Nat → Int} (hI : Ic c) : ∀ t : Nat, c 5 + (t : Int) ≤ 20000 → Ic (dayN c t)
  | 0, _ => hI
  | t + 1, h => Ic_dayF (Ic_dayN hI t (by omega)) (by rw [dayN_5]; omega)
theorem dayN_add (c : Nat → Int) (s : Nat) : ∀ t, dayN (dayN c s) t = dayN c (s + t)
  | 0 => rfl
  | t + 1 => by
    show dayF (dayN (dayN c s) t) = dayF (dayN c (s + t))
    rw [dayN_add c s t]
/-- who does not hold any more comes to hold no more -/
theorem dayN_hold {c : Nat → Int} {k : Nat} (hk : (k : Int) < c 2) (h6 : k < 6) : ∀ t, dayN c t (65 + k) = c (65 + k) ∨ dayN c t (65 + k) = 0
  | 0 => Or.inl rfl
  | t + 1 => by
    have h2 : dayN c t 2 = c 2 := dayN_lo (by decide) (by omega) t
    have e : dayF (dayN c t) (65 + k) = dayK (dayN c t) k 1 (dayN c t (65 + k)) := dayF_k (r := 1) (by rw [h2]; exact hk) h6 (by omega)
    have ih := dayN_hold hk h6 t
    show dayF (dayN c t) (65 + k) = c (65 + k) ∨ dayF (dayN c t) (65 + k) = 0
    rw [e]
    unfold dayK
    by_cases g : dayN c t (65 + k) = 0
    · rw [if_pos g]; exact Or.inr g
    · rw [if_neg g, if_neg (by omega), if_pos rfl]
      split
      · exact Or.inr rfl
      · exact ih
def kC (f : Nat → Nat → Int → Int) (c : Nat → Int) (i : Nat) : Nat → Int := fun j => if 59 ≤ j ∧ j < 83 ∧ (j - 59) % 6 < i then f ((j - 59) % 6) ((j - 59) / 6) (c j) else c j
theorem kC_lo {f : Nat → Nat → Int → Int} {c : Nat → Int} {i j : Nat} (h : j < 59 ∨ 83 ≤ j) : kC f c i j = c j := by unfold kC; rw [if_neg (by omega)]
theorem kC_at {f : Nat → Nat → Int → Int} {c : Nat → Int} {i k r : Nat} (hk : k < 6) (hr : r < 4) : kC f c i (59 + 6 * r + k) = if k < i then f k r (c (59 + 6 * r + k)) else c (59 + 6 * r + k) := by
  have e1 : (59 + 6 * r + k - 59) % 6 = k := by omega
  have e2 : (59 + 6 * r + k - 59) / 6 = r := by omega
  unfold kC
  rw [e1, e2]
  by_cases h : k < i
  · rw [if_pos ⟨by omega, by omega, h⟩, if_pos h]
  · rw [if_neg (fun g => h g.2.2), if_neg h]
theorem kC_succ {f : Nat → Nat → Int → Int} {c : Nat → Int} {k : Nat} (hk : k < 6) : kC f c (k + 1) = fun j => if j = 59 + k then f k 0 (c (59 + k)) else if j = 65 + k then f k 1 (c (65 + k)) else if j = 71 + k then f k 2 (c (71 + k)) else if j = 77 + k then f k 3 (c (77 + k)) else kC f c k j := by
  have hs : ∀ r, r < 4 → kC f c (k + 1) (59 + 6 * r + k) = f k r (c (59 + 6 * r + k)) := fun r hr => by rw [kC_at hk hr, if_pos (by omega)]
  have hs0 : kC f c (k + 1) (59 + k) = f k 0 (c (59 + k)) := hs 0 (by omega)
  have hs1 : kC f c (k + 1) (65 + k) = f k 1 (c (65 + k)) := hs 1 (by omega)
  have hs2 : kC f c (k + 1) (71 + k) = f k 2 (c (71 + k)) := hs 2 (by omega)
  have hs3 : kC f c (k + 1) (77 + k) = f k 3 (c (77 + k)) := hs 3 (by omega)
  funext j
  by_cases e0 : j = 59 + k
  · rw [if_pos e0, e0, hs0]
  · rw [if_neg e0]
    by_cases e1 : j = 65 + k
    · rw [if_pos e1, e1, hs1]
    · rw [if_neg e1]
      by_cases e2 : j = 71 + k
      · rw [if_pos e2, e2, hs2]
      · rw [if_neg e2]
        by_cases e3 : j = 77 + k
        · rw [if_pos e3, e3, hs3]
        · rw [if_neg e3]
          unfold kC
          by_cases g : 59 ≤ j ∧ j < 83 ∧ (j - 59) % 6 < k
          · rw [if_pos g, if_pos ⟨g.1, g.2.1, by omega⟩]
          · rw [if_neg g, if_neg (fun h => g ⟨h.1, h.2.1, by omega⟩)]
theorem Ib_cset {c : Nat → Int} (h : Ib c) {j : Nat} (hj : 2 < j) (v : Int) : Ib (cset c j v) := by
  unfold Ib at h ⊢
  rw [cset_ne (j := j) (b := 0) (by omega), cset_ne (j := j) (b := 1) (by omega), cset_ne (j := j) (b := 2) (by omega)]
  exact h
def lossF (c : Nat → Int) (k : Nat) : Int := if ansF c k < 0 then 1 else 2
/-- cell of couple k in row r after t DAYS that are alike -/
def spnK (c : Nat → Int) (t : Int) (k r : Nat) (v : Int) : Int :=
  if c (65 + k) = 0 then v else if ansF c k = (k : Int) then (if r = 0 then min 9 (v + t) else if r = 2 then v + t else v)
  else (if r = 0 then max 0 (v - t * lossF c k) else if r = 1 then (if max 0 (c (59 + k) - t * lossF c k) = 0 then 0 else v) else if r = 3 then (if 0 ≤ ansF c k then v + t else v) else v)
def spart (c : Nat → Int) (t : Int) (k : Nat) : Bool := decide (¬ c (65 + k) = 0 ∧ ¬ ansF c k = (k : Int) ∧ max 0 (c (59 + k) - t * lossF c k) = 0)
theorem lossF_b (c : Nat → Int) (k : Nat) : lossF c k = 1 ∨ lossF c k = 2 := by unfold lossF; split <;> omega
theorem x_lossOf {M : AM} {d : Nat} {c : Nat → Int} {k : Nat} (hk : k < 6) (hw : M (d + 1) k = ansF c k) (ha : -1 ≤ ansF c k) : f_X0_lossOf d (k : Int) M = some (lossF c k, M) := by
  unfold f_X0_lossOf lossF
  rw [if_pos (by omega), tnc, hw]
  by_cases g : ansF c k < 0
  · rw [if_neg (by omega), if_pos g]
  · rw [if_pos (by omega), if_neg g]
theorem mul_loss {t l : Int} (ht : 0 ≤ t) (ht2 : t ≤ 20000) (hl : l = 1 ∨ l = 2) : 0 ≤ t * l ∧ t * l ≤ 40000 := by
  rcases hl with rfl | rfl <;> omega
/-- whom they answer stands in the row of the Days at d -/
def Wh (c : Nat → Int) (d : Nat) (M : AM) : Prop := ∀ k : Nat, (k : Int) < c 2 → M (d + 1) k = if c (65 + k) = 0 then -1 else ansF c k
theorem x_love {c : Nat → Int} {d q : Nat} {M : AM} (hd : q + 10 < d) (hI : Ic c) (hR : Rg c q M) (hW : Wh c d M) {t : Int} (ht : 1 ≤ t) (ht2 : t ≤ 20000) :
    Wp (f_X0_loveThrough d q t M) (fun r => r.1 = (setB (spart c t) (c 2).toNat : Nat) ∧ Rg (kC (spnK c t) c (c 2).toNat) q r.2 ∧ (∀ a, a ≠ q → a ≠ q + 6 → a ≠ q + 7 → a ≠ q + 8 → r.2 a = M a) ∧ (∀ j, j ≠ 8 → r.2 q j = M q j)) := by
  have hc2 := hI.2.2.1
  have hc5 := hI.2.2.2.2.2.1
  unfold f_X0_loveThrough
  refine up_loopP0 (fun n i (s : Int × AM) => f_X0_loveThrough_5 n d q t s.1 (i : Int) s.2)
    (fun i s => s.1 = (setB (spart c t) i : Nat) ∧ Rg (kC (spnK c t) c i) q s.2 ∧ (∀ a, a ≠ q → a ≠ q + 6 → a ≠ q + 7 → a ≠ q + 8 → s.2 a = M a) ∧ (∀ j, j ≠ 8 → s.2 q j = M q j)) _ (c 2).toNat (0, M) ?_ ?_ ?_ (by omega)
  · have e : kC (spnK c t) c 0 = c := by funext j; unfold kC; rw [if_neg (by omega)]
    exact ⟨rfl, by rw [e]; exact hR, fun _ _ _ _ _ => rfl, fun _ _ => rfl⟩
  · rintro n i ⟨p, M'⟩ hi ⟨h1, h2, h3, h4⟩
    replace h1 : p = (setB (spart c t) i : Nat) := h1
    replace h2 : Rg (kC (spnK c t) c i) q M' := h2
    replace h3 : ∀ a, a ≠ q → a ≠ q + 6 → a ≠ q + 7 → a ≠ q + 8 → M' a = M a := h3
    replace h4 : ∀ j, j ≠ 8 → M' q j = M q j := h4
    have hk := Ic_k hI (k := i) (by omega)
    have hans := ansF_r hI i
    have C0 : kC (spnK c t) c i 0 = c 0 := kC_lo (by omega)
    have C1 : kC (spnK c t) c i 1 = c 1 := kC_lo (by omega)
    have C2 : kC (spnK c t) c i 2 = c 2 := kC_lo (by omega)
    have hIb : Ib (kC (spnK c t) c i) := by unfold Ib; rw [C0, C1, C2]; exact Ib_of hI
    have hc : ∀ r, r < 4 → kC (spnK c t) c i (59 + 6 * r + i) = c (59 + 6 * r + i) := fun r hr => by rw [kC_at (by omega) hr, if_neg (by omega)]
    have c0 : kC (spnK c t) c i (59 + i) = c (59 + i) := hc 0 (by omega)
    have c1 : kC (spnK c t) c i (65 + i) = c (65 + i) := hc 1 (by omega)
    have c2 : kC (spnK c t) c i (71 + i) = c (71 + i) := hc 2 (by omega)
    have c3 : kC (spnK c t) c i (77 + i) = c (77 + i) := hc 3 (by omega)
    have hi2 : (i : Int) < kC (spnK c t) c i 2 := by rw [C2]; omega
    have hrow := h2.2.2.1 i hi2
    rw [c0, c2, c3] at hrow
    have hsucc := kC_succ (f := spnK c t) (c := c) (k := i) (by omega)
    have hw : M' (d + 1) i = if c (65 + i) = 0 then -1 else ansF c i := by rw [h3 (d + 1) (by omega) (by omega) (by omega) (by omega)]; exact hW i (by omega)
    left
    show ∃ s2 : Int × AM, _ ∧ f_X0_loveThrough_5 (n + 1) d q t p (i : Int) M' = _
    simp only [f_X0_loveThrough_5]
    rw [h4 4 (by decide), hR.1.2.2.2.2.1, if_neg (by omega), x_isHolding hIb h2 hi2, bind_s, c1]
    by_cases g : c (65 + i) = 0
    · have g' : ¬ c (65 + i) = 1 := by omega
      simp only [g', if_false, not_true_eq_false, if_false]
      refine ⟨(p, M'), ⟨?_, ?_, h3, h4⟩, by rw [o_succ (by omega)]⟩
      · rw [← set_skip (p := spart c t) (n := i) (by simp [spart, g])]; exact h1
      · have e : kC (spnK c t) c (i + 1) = kC (spnK c t) c i := by
          rw [hsucc]
          funext j
          have hs : ∀ r v, spnK c t i r v = v := fun r v => by unfold spnK; rw [if_pos g]
          simp only [hs]
          by_cases e0 : j = 59 + i
          · rw [if_pos e0, e0, c0]
          · rw [if_neg e0]
            by_cases e1 : j = 65 + i
            · rw [if_pos e1, e1, c1]
            · rw [if_neg e1]
              by_cases e2 : j = 71 + i
              · rw [if_pos e2, e2, c2]
              · rw [if_neg e2]
                by_cases e3 : j = 77 + i
                · rw [if_pos e3, e3, c3]
                · rw [if_neg e3]
        show Rg (kC (spnK c t) c (i + 1)) q M'
        rw [e]; exact h2
    · have g' : c (65 + i) = 1 := by omega
      rw [if_neg g] at hw
      simp only [g', if_true, show ¬ (1 : Int) = 0 by decide, not_false_eq_true]
      rw [if_pos (by omega), tnc, hw]
      by_cases g2 : ansF c i = (i : Int)
      · rw [if_neg (fun h => h g2), zlet_eq, zlet_eq]
        rw [am_upd_cell (M := M') (q := q + 6) (a := q + 7) (by omega), hrow.2.2.1, hrow.2.2.2.1, o_succ (by omega), o_add_eq (by omega) (by omega), o_min_eq, o_add_eq (by omega) (by omega)]
        refine ⟨(p, am_upd (am_upd M' (q + 6) i (min 9 (c (59 + i) + t))) (q + 7) i (c (71 + i) + t)), ⟨?_, ?_, ?_, ?_⟩, rfl⟩
        · rw [← set_skip (p := spart c t) (n := i) (by simp [spart, g2])]; exact h1
        · have hA := Rg_love hIb hi2 (min 9 (c (59 + i) + t)) h2
          have hIb2 : Ib (cset (kC (spnK c t) c i) (59 + i) (min 9 (c (59 + i) + t))) := Ib_cset hIb (by omega) _
          have hB := Rg_own hIb2 (i := i) (by rw [cset_ne (by omega)]; exact hi2) (c (71 + i) + t) hA
          have e : kC (spnK c t) c (i + 1) = cset (cset (kC (spnK c t) c i) (59 + i) (min 9 (c (59 + i) + t))) (71 + i) (c (71 + i) + t) := by
            rw [hsucc]
            funext j
            have s0 : spnK c t i 0 (c (59 + i)) = min 9 (c (59 + i) + t) := by unfold spnK; rw [if_neg g, if_pos g2, if_pos rfl]
            have s1 : spnK c t i 1 (c (65 + i)) = c (65 + i) := by unfold spnK; rw [if_neg g, if_pos g2, if_neg (by omega), if_neg (by omega)]
            have s2 : spnK c t i 2 (c (71 + i)) = c (71 + i) + t := by unfold spnK; rw [if_neg g, if_pos g2, if_neg (by omega), if_pos rfl]
            have s3 : spnK c t i 3 (c (77 + i)) = c (77 + i) := by unfold spnK; rw [if_neg g, if_pos g2, if_neg (by omega), if_neg (by omega)]
            rw [s0, s1, s2, s3]
            unfold cset
            by_cases e2 : j = 71 + i
            · rw [if_neg (by omega), if_neg (by omega), if_pos e2, if_pos e2]
            · by_cases e0 : j = 59 + i
              · rw [if_pos e0, if_neg e2, if_pos e0]
              · simp only [e0, e2, if_false]
                by_cases e1 : j = 65 + i
                · rw [if_pos e1, e1, c1]
                · rw [if_neg e1]
                  by_cases e3 : j = 77 + i
                  · rw [if_pos e3, e3, c3]
                  · rw [if_neg e3]
          show Rg (kC (spnK c t) c (i + 1)) q _
          rw [e]; exact hB
        · intro a a1 a2 a3 a4
          show am_upd (am_upd M' (q + 6) i _) (q + 7) i _ a = M a
          rw [am_upd_cell a3, am_upd_cell a2]; exact h3 a a1 a2 a3 a4
        · intro j hj
          show am_upd (am_upd M' (q + 6) i _) (q + 7) i _ q j = M q j
          rw [am_upd_cell (by omega), am_upd_cell (by omega)]; exact h4 j hj
      · rw [if_pos g2, x_lossOf (c := c) (by omega) hw (by omega), bind_s]
        dsimp only
        have hlb := lossF_b c i
        have hml := mul_loss (by omega) ht2 hlb
        rw [zlet_eq, hrow.2.2.1, o_mul_eq (by omega) (by omega), o_sub_eq (by omega) (by omega), o_max_eq]
        generalize hv : max 0 (c (59 + i) - t * lossF c i) = v
        have hA := Rg_love hIb hi2 v h2
        have hw2 : am_upd M' (q + 6) i v (d + 1) i = ansF c i := by rw [am_upd_cell (by omega)]; exact hw
        have hIb2 : Ib (cset (kC (spnK c t) c i) (59 + i) v) := Ib_cset hIb (by omega) _
        have s0 : spnK c t i 0 (c (59 + i)) = v := by unfold spnK; rw [if_neg g, if_neg g2, if_pos rfl, hv]
        have s1 : spnK c t i 1 (c (65 + i)) = if v = 0 then 0 else c (65 + i) := by unfold spnK; rw [if_neg g, if_neg g2, if_neg (by omega), if_pos rfl, hv]
        have s2 : spnK c t i 2 (c (71 + i)) = c (71 + i) := by unfold spnK; rw [if_neg g, if_neg g2, if_neg (by omega), if_neg (by omega), if_neg (by omega)]
        have s3 : spnK c t i 3 (c (77 + i)) = if 0 ≤ ansF c i then c (77 + i) + t else c (77 + i) := by unfold spnK; rw [if_neg g, if_neg g2, if_neg (by omega), if_neg (by omega), if_pos rfl]
        -- the row of those who answered another one
        have hB : ∃ M2, (if am_upd M' (q + 6) i v (d + 1) (Int.toNat (i : Int)) = -1 then f_X0_loveThrough_122 (f_X0_loveThrough_5 n) d q t p (i : Int) (am_upd M' (q + 6) i v) else (zlet (am_upd (am_upd M' (q + 6) i v) (q + 8) (Int.toNat (i : Int)) (o_add (am_upd M' (q + 6) i v (q + 8) (Int.toNat (i : Int))) t)) fun M5 => f_X0_loveThrough_122 (f_X0_loveThrough_5 n) d q t p (i : Int) M5)) = f_X0_loveThrough_122 (f_X0_loveThrough_5 n) d q t p (i : Int) M2 ∧
            Rg (cset (cset (kC (spnK c t) c i) (59 + i) v) (77 + i) (spnK c t i 3 (c (77 + i)))) q M2 ∧ (∀ a, a ≠ q + 6 → a ≠ q + 8 → M2 a = M' a) ∧ M2 (q + 6) i = v := by
          rw [tnc, hw2]
          by_cases g3 : ansF c i = -1
          · rw [if_pos g3]
            refine ⟨_, rfl, ?_, fun a a1 a2 => am_upd_cell a1, am_upd_self _ _ _ _⟩
            rw [s3, if_neg (by omega)]
            have e : cset (cset (kC (spnK c t) c i) (59 + i) v) (77 + i) (c (77 + i)) = cset (kC (spnK c t) c i) (59 + i) v := by
              funext j
              unfold cset
              by_cases e3 : j = 77 + i
              · rw [if_pos e3, if_neg (by omega), e3, c3]
              · rw [if_neg e3]
            rw [e]; exact hA
          · rw [if_neg g3, zlet_eq, am_upd_cell (M := M') (q := q + 6) (a := q + 8) (by omega), hrow.2.2.2.2, o_add_eq (by omega) (by omega)]
            refine ⟨_, rfl, ?_, fun a a1 a2 => by rw [am_upd_cell a2, am_upd_cell a1], by rw [am_upd_cell (by omega)]; exact am_upd_self _ _ _ _⟩
            rw [s3, if_pos (by omega)]
            exact Rg_oth hIb2 (i := i) (by rw [cset_ne (by omega)]; exact hi2) (c (77 + i) + t) hA
        obtain ⟨M2, eM2, hR2, hF2, hv2⟩ := hB
        rw [tnc] at eM2
        rw [eM2]
        unfold f_X0_loveThrough_122
        rw [if_pos (by omega), tnc, hv2]
        have hIb3 : Ib (cset (cset (kC (spnK c t) c i) (59 + i) v) (77 + i) (spnK c t i 3 (c (77 + i)))) := Ib_cset hIb2 (by omega) _
        by_cases g4 : v = 0
        · rw [if_neg (fun h => h g4), zlet_eq, o_succ (by omega)]
          refine ⟨(o_or p (o_shl 1 (i : Int)), am_upd M2 q 8 (o_and (M2 q 8) (o_xor (o_shl 1 (i : Int)) (-1)))), ⟨?_, ?_, ?_, ?_⟩, rfl⟩
          · show o_or p (o_shl 1 (i : Int)) = _
            rw [h1, o_or_set1 (by omega)]
            simp [spart, g, g2, hv, g4]
          · have hC := Rg_holdOff hIb3 (i := i) (by rw [cset_ne (by omega), cset_ne (by omega)]; exact hi2) hR2
            have e : kC (spnK c t) c (i + 1) = cset (cset (cset (kC (spnK c t) c i) (59 + i) v) (77 + i) (spnK c t i 3 (c (77 + i)))) (65 + i) 0 := by
              rw [hsucc]
              funext j
              rw [s0, s1, s2, if_pos g4]
              unfold cset
              by_cases e1 : j = 65 + i
              · rw [if_neg (by omega), if_pos e1, if_pos e1]
              · rw [if_neg (c := j = 65 + i) e1, if_neg (c := j = 65 + i) e1]
                by_cases e3 : j = 77 + i
                · rw [if_neg (by omega), if_neg (by omega), if_pos e3, if_pos e3]
                · rw [if_neg (c := j = 77 + i) e3, if_neg (c := j = 77 + i) e3]
                  by_cases e0 : j = 59 + i
                  · rw [if_pos e0, if_pos e0]
                  · rw [if_neg e0, if_neg e0]
                    by_cases e2 : j = 71 + i
                    · rw [if_pos e2, e2, c2]
                    · rw [if_neg e2]
            show Rg (kC (spnK c t) c (i + 1)) q _
            rw [e]; exact hC
          · intro a a1 a2 a3 a4
            show am_upd M2 q 8 _ a = M a
            rw [am_upd_cell a1, hF2 a a2 a4]; exact h3 a a1 a2 a3 a4
          · intro j hj
            show am_upd M2 q 8 _ q j = M q j
            rw [am_upd_ne (fun h => hj h.2), hF2 q (by omega) (by omega)]; exact h4 j hj
        · rw [if_pos g4, o_succ (by omega)]
          refine ⟨(p, M2), ⟨?_, ?_, ?_, ?_⟩, rfl⟩
          · rw [← set_skip (p := spart c t) (n := i) (by simp [spart, hv, g4])]; exact h1
          · have e : kC (spnK c t) c (i + 1) = cset (cset (kC (spnK c t) c i) (59 + i) v) (77 + i) (spnK c t i 3 (c (77 + i))) := by
              rw [hsucc]
              funext j
              rw [s0, s1, s2, if_neg g4]
              unfold cset
              by_cases e3 : j = 77 + i
              · rw [if_neg (by omega), if_neg (by omega), if_neg (by omega), if_pos e3, if_pos e3]
              · rw [if_neg (c := j = 77 + i) e3, if_neg (c := j = 77 + i) e3]
                by_cases e0 : j = 59 + i
                · rw [if_pos e0, if_pos e0]
                · rw [if_neg e0, if_neg e0]
                  by_cases e1 : j = 65 + i
                  · rw [if_pos e1, e1, c1]
                  · rw [if_neg e1]
                    by_cases e2 : j = 71 + i
                    · rw [if_pos e2, e2, c2]
                    · rw [if_neg e2]
            show Rg (kC (spnK c t) c (i + 1)) q _
            rw [e]; exact hR2
          · intro a a1 a2 a3 a4
            show M2 a = M a
            rw [hF2 a a2 a4]; exact h3 a a1 a2 a3 a4
          · intro j hj
            show M2 q j = M q j
            rw [hF2 q (by omega) (by omega)]; exact h4 j hj
  · rintro n ⟨p, M'⟩ ⟨h1, h2, h3, h4⟩
    have h4' : M' q 4 = M q 4 := h4 4 (by decide)
    show Wp (f_X0_loveThrough_5 (n + 1) d q t p (((c 2).toNat : Nat) : Int) M') _
    simp only [f_X0_loveThrough_5]
    rw [h4', hR.1.2.2.2.2.1, if_pos (by omega)]
    exact wp_some ⟨h1, h2, h3, h4⟩
