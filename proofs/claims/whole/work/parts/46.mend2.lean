/-! the model's MENDS -/
theorem Ic_wires {c d : Nat → Int} (hI : Ic c) (h : ∀ j, j < 27 ∨ 47 ≤ j → d j = c j) (hw : ∀ w : Nat, (w : Int) < c 1 → (0 ≤ d (27 + w) ∧ d (27 + w) ≤ 9) ∧ (d (37 + w) = 0 ∨ d (37 + w) = 1)) : Ic d := by
  obtain ⟨i0, i1, i2, i3, i4, i5, i6, i7, i8⟩ := hI
  unfold Ic
  rw [h 0 (by omega), h 1 (by omega), h 2 (by omega), h 3 (by omega), h 4 (by omega), h 5 (by omega), h 6 (by omega)]
  refine ⟨i0, i1, i2, i3, i4, i5, i6, fun w hw2 => ?_, fun k hk => ?_⟩
  · have := i7 w hw2
    rw [h (7 + w) (by omega), h (17 + w) (by omega)]
    exact ⟨this.1, this.2.1, (hw w hw2).1, (hw w hw2).2⟩
  · rw [h (47 + k) (by omega), h (53 + k) (by omega), h (59 + k) (by omega), h (65 + k) (by omega), h (71 + k) (by omega), h (77 + k) (by omega)]
    exact i8 k hk
/-- wires of set s below i mended -/
def modV (c : Nat → Int) (s i : Nat) : Nat → Int := fun j => if 37 ≤ j ∧ j < 47 ∧ j - 37 < i ∧ s.testBit (j - 37) = true then 1 else if 27 ≤ j ∧ j < 37 ∧ j - 27 < i ∧ s.testBit (j - 27) = true then 0 else c j
theorem modV_lo {c : Nat → Int} {s i j : Nat} (h : j < 27 ∨ 47 ≤ j) : modV c s i j = c j := by unfold modV; rw [if_neg (by omega), if_neg (by omega)]
theorem modV_wh {c : Nat → Int} {s i w : Nat} (h : w < 10) : modV c s i (37 + w) = if w < i ∧ s.testBit w = true then 1 else c (37 + w) := by
  unfold modV
  rw [Nat.add_sub_cancel_left]
  by_cases g : w < i ∧ s.testBit w = true
  · rw [if_pos ⟨by omega, by omega, g.1, g.2⟩, if_pos g]
  · rw [if_neg (fun h => g ⟨h.2.2.1, h.2.2.2⟩), if_neg (by omega), if_neg g]
theorem modV_sl {c : Nat → Int} {s i w : Nat} (h : w < 10) : modV c s i (27 + w) = if w < i ∧ s.testBit w = true then 0 else c (27 + w) := by
  unfold modV
  rw [Nat.add_sub_cancel_left, if_neg (by omega)]
  by_cases g : w < i ∧ s.testBit w = true
  · rw [if_pos ⟨by omega, by omega, g.1, g.2⟩, if_pos g]
  · rw [if_neg (fun h => g ⟨h.2.2.1, h.2.2.2⟩), if_neg g]
theorem modV_hi {c : Nat → Int} {s i j : Nat} (h : 83 ≤ j) : modV c s i j = c j := modV_lo (by omega)
theorem modV_succ {c : Nat → Int} {s i : Nat} (hi : i < 10) (hb : s.testBit i = true) : modV c s (i + 1) = cset (cset (modV c s i) (37 + i) 1) (27 + i) 0 := by
  funext j
  unfold cset
  by_cases e1 : j = 27 + i
  · subst e1
    rw [if_pos rfl, modV_sl hi, if_pos ⟨by omega, hb⟩]
  · rw [if_neg e1]
    by_cases e2 : j = 37 + i
    · subst e2
      rw [if_pos rfl, modV_wh hi, if_pos ⟨by omega, hb⟩]
    · rw [if_neg e2]
      unfold modV
      by_cases g : 37 ≤ j ∧ j < 47 ∧ j - 37 < i ∧ s.testBit (j - 37) = true
      · rw [if_pos g, if_pos ⟨g.1, g.2.1, by omega, g.2.2.2⟩]
      · rw [if_neg g, if_neg (fun h => g ⟨h.1, h.2.1, by omega, h.2.2.2⟩)]
        by_cases g2 : 27 ≤ j ∧ j < 37 ∧ j - 27 < i ∧ s.testBit (j - 27) = true
        · rw [if_pos g2, if_pos ⟨g2.1, g2.2.1, by omega, g2.2.2.2⟩]
        · rw [if_neg g2, if_neg (fun h => g2 ⟨h.1, h.2.1, by omega, h.2.2.2⟩)]
theorem modV_skip {c : Nat → Int} {s i : Nat} (hb : s.testBit i = false) : modV c s (i + 1) = modV c s i := by
  funext j
  unfold modV
  by_cases g : 37 ≤ j ∧ j < 47 ∧ j - 37 < i ∧ s.testBit (j - 37) = true
  · rw [if_pos g, if_pos ⟨g.1, g.2.1, by omega, g.2.2.2⟩]
  · have g' : ¬ (37 ≤ j ∧ j < 47 ∧ j - 37 < i + 1 ∧ s.testBit (j - 37) = true) := by
      rintro ⟨h1, h2, h3, h4⟩
      by_cases e : j - 37 = i
      · rw [e, hb] at h4; cases h4
      · exact g ⟨h1, h2, by omega, h4⟩
    rw [if_neg g, if_neg g']
    by_cases g2 : 27 ≤ j ∧ j < 37 ∧ j - 27 < i ∧ s.testBit (j - 27) = true
    · rw [if_pos g2, if_pos ⟨g2.1, g2.2.1, by omega, g2.2.2.2⟩]
    · have g3 : ¬ (27 ≤ j ∧ j < 37 ∧ j - 27 < i + 1 ∧ s.testBit (j - 27) = true) := by
        rintro ⟨h1, h2, h3, h4⟩
        by_cases e : j - 27 = i
        · rw [e, hb] at h4; cases h4
        · exact g2 ⟨h1, h2, by omega, h4⟩
      rw [if_neg g2, if_neg g3]
theorem Ic_modV {c : Nat → Int} (hI : Ic c) (s i : Nat) : Ic (modV c s i) := by
  have h1 := hI.2.1
  refine Ic_wires hI (fun j hj => modV_lo hj) (fun w hw => ?_)
  have hIw := Ic_w hI hw
  rw [modV_sl (by omega), modV_wh (by omega)]
  refine ⟨?_, ?_⟩
  · split
    · omega
    · exact hIw.2.2.1
  · split
    · exact Or.inr rfl
    · exact hIw.2.2.2
theorem rung_modV {c : Nat → Int} (hI : Ic c) (s : Nat) {k : Nat} (hk : k < 6) : rungB (modV c s (c 1).toNat) k = rungB (cW c (wholeN c ||| s) s) k := by
  have h1 := hI.2.1
  refine rung_congr ?_ ?_ ?_ (fun w hw => ⟨?_, ?_, ?_, ?_⟩) (fun j h1 h2 => ?_) hk
  · rw [modV_lo (by omega), cW_lo c _ _ (by omega)]
  · rw [modV_lo (by omega), cW_lo c _ _ (by omega)]
  · rw [modV_lo (by omega), cW_lo c _ _ (by omega)]
  · rw [cW_lo c _ _ (j := 1) (by omega)] at hw
    rw [modV_lo (by omega), cW_lo c _ _ (by omega)]
  · rw [cW_lo c _ _ (j := 1) (by omega)] at hw
    rw [modV_lo (by omega), cW_lo c _ _ (by omega)]
  · rw [cW_lo c _ _ (j := 1) (by omega)] at hw
    rw [modV_sl (by omega), cW_md c _ _ (by omega)]
    have hwl : w < (c 1).toNat := by omega
    cases hb : s.testBit w <;> simp [hwl]
  · rw [cW_lo c _ _ (j := 1) (by omega)] at hw
    have hIw := Ic_w hI hw
    have hwl : w < (c 1).toNat := by omega
    rw [modV_wh (by omega), cW_wh c _ _ (by omega), Nat.testBit_or, whole_bit hwl]
    cases hb : s.testBit w
    · by_cases g : c (37 + w) = 1
      · simp [g]
      · have g2 : c (37 + w) = 0 := by omega
        simp [g2]
    · simp [hwl]
  · rw [modV_lo (by omega), cW_lo c _ _ (by omega)]
/-- the set of those RUNG, asked for a set -/
theorem rung_and {d : Nat → Int} (h2 : 0 ≤ d 2 ∧ d 2 ≤ 6) {a : Nat} (ha : a < 2 ^ (d 2).toNat) : o_and ((rungN d : Nat) : Int) (a : Int) = (a : Int) ↔ allB d a (d 2).toNat = true := by
  have hr : rungN d < 2 ^ (d 2).toNat := setB_lt _ _
  have hr2 := lt1024 (n := (d 2).toNat) (by omega) hr
  have ha2 := lt1024 (n := (d 2).toNat) (by omega) ha
  rw [o_and_nat (by omega) (by omega), allB_iff]
  have key : rungN d &&& a = a ↔ ∀ k, k < (d 2).toNat → a.testBit k = true → rungB d k = true := by
    constructor
    · intro h k hk hb
      have := congrArg (fun x => Nat.testBit x k) h
      simp only [Nat.testBit_and, hb, Bool.and_true] at this
      unfold rungN at this
      rw [setB_bit] at this
      simpa [hk] using this
    · intro h
      apply Nat.eq_of_testBit_eq
      intro k
      rw [Nat.testBit_and]
      cases hb : a.testBit k
      · simp
      · by_cases hk : k < (d 2).toNat
        · have := h k hk hb
          unfold rungN
          rw [setB_bit]
          simp [hk, this]
        · rw [nat_lt_bit ha (by omega)] at hb; cases hb
  rw [← key]
  omega
theorem m_mend41 {c : Nat → Int} {P : AM} (hI : Ic c) (h5 : P 5 = c) (k8 : Int → Int → Int → AM → Option (Int × AM)) {a s : Nat} (hs : s < 1024) (b : Int) :
    f_X11_mending_41 k8 zB (a : Int) b (s : Int) 0 P = (f_X11_rung (am_row P 5 (modV c s (c 1).toNat))).bind fun x1 => if ¬ o_and x1.1 (a : Int) = (a : Int) then f_X11_mending_86 k8 (a : Int) b (s : Int) x1.2 else f_X11_mending_86 k8 (a : Int) (s : Int) (s : Int) x1.2 := by
  have h1 := hI.2.1
  have e0 : am_row P 5 (modV c s 0) = P := am_row_id _ _ _ (by rw [h5]; funext j; unfold modV; rw [if_neg (by omega), if_neg (by omega)])
  refine up_loop0 (fun n i st => f_X11_mending_41 k8 n (a : Int) b (s : Int) (i : Int) st) (fun i => am_row P 5 (modV c s i)) (c 1).toNat _ P e0 ?_ ?_ (by omega)
  · intro n i hi
    have hr1 : modV c s i 1 = c 1 := modV_lo (by omega)
    simp only [f_X11_mending_41, am_row_self, tn1]
    rw [if_neg (by omega), m_has hs (by omega), bind_s]
    dsimp only
    cases hb : s.testBit i
    · simp only [Bool.false_eq_true, if_false, if_true]
      rw [o_succ (by omega), modV_skip hb]
    · simp only [if_true, i10, if_false]
      rw [m_repairs (by omega), bind_s, o_succ (by omega)]
      dsimp only
      rw [am_row_upd, am_row_upd, modV_succ (by omega) hb]
      rfl
  · intro n
    have hr1 : modV c s (c 1).toNat 1 = c 1 := modV_lo (by omega)
    simp only [f_X11_mending_41, am_row_self, tn1]
    rw [if_pos (by omega)]
theorem m_mending {M : AM} (hI : Ic (M 5)) {a : Nat} (ha : a < 2 ^ (M 5 2).toNat) : Wp (f_X11_mending (a : Int) M) (fun r => r.1 = mendF (M 5) a ∧ r.2 5 = M 5 ∧ Eo [5, 6, 9] M r.2) := by
  have h1 := hI.2.1
  have h2 := hI.2.2.1
  have hm := pow_le1024 (n := (M 5 1).toNat) (by omega)
  obtain ⟨M3, e3, hA, h35, hE3⟩ := m_puts' M
  unfold f_X11_mending
  rw [e3, bind_s]
  refine up_loopP0 (fun n i (s : Int × AM) => f_X11_mending_8 n (a : Int) s.1 (i : Int) s.2) (fun i s => s.1 = rg i (stepM (mQ (M 5) a)) (-1) ∧ Aside (M 5) s.2 ∧ s.2 5 = M 5 ∧ Eo [5, 6, 9] M s.2) _ (2 ^ (M 5 1).toNat) (-1, M3) ⟨rfl, hA, h35, Eo_sub hE3 (by simp)⟩ ?_ ?_ (by omega)
  · rintro n i ⟨b, N⟩ hi ⟨g0, g1, g2, g3⟩
    replace g0 : b = rg i (stepM (mQ (M 5) a)) (-1) := g0
    replace g1 : Aside (M 5) N := g1
    replace g2 : N 5 = M 5 := g2
    replace g3 : Eo [5, 6, 9] M N := g3
    left
    show ∃ s2 : Int × AM, _ ∧ f_X11_mending_8 (n + 1) (a : Int) b (i : Int) N = _
    simp only [f_X11_mending_8, g2, tn1]
    rw [(shl1_b (n := M 5 1) (by omega)).1, if_neg (by omega)]
    have hstep : rg (i + 1) (stepM (mQ (M 5) a)) (-1) = if ¬ b < 0 ∧ pc b.toNat ≤ pc i then b else if mQ (M 5) a i then (i : Int) else b := by rw [rg_succ, ← g0]; rfl
    have hdo : ¬ (¬ b < 0 ∧ pc b.toNat ≤ pc i) → ∃ s2 : Int × AM, (s2.1 = rg (i + 1) (stepM (mQ (M 5) a)) (-1) ∧ Aside (M 5) s2.2 ∧ s2.2 5 = M 5 ∧ Eo [5, 6, 9] M s2.2) ∧ f_X11_mending_41 (f_X11_mending_8 n) zB (a : Int) b (i : Int) 0 N = f_X11_mending_8 n (a : Int) s2.1 ((i + 1 : Nat) : Int) s2.2 := by
      intro hno
      rw [m_mend41 hI g2 _ (by omega)]
      have hIm := Ic_modV hI i (M 5 1).toNat
      have hrow : am_row N 5 (modV (M 5) i (M 5 1).toNat) 5 = modV (M 5) i (M 5 1).toNat := am_row_self _ _ _
      have hm2 : modV (M 5) i (M 5 1).toNat 2 = M 5 2 := modV_lo (by omega)
      rw [m_rung (by rw [hrow]; exact hIm), bind_s, hrow]
      dsimp only
      generalize hL : LF (am_row N 5 (modV (M 5) i (M 5 1).toNat)) = L
      have hL5 : L 5 = modV (M 5) i (M 5 1).toNat := by rw [← hL, LF5, hrow]
      have hLE : Eo [5, 9] N L := by rw [← hL]; exact Eo_trans (Eo_row _ (by simp) (Eo_refl _ _)) (Eo_sub (LF_Eo _) (by simp))
      have hLA : Aside (M 5) L := fun j hj => by rw [hLE 6 (by simp)]; exact g1 j hj
      obtain ⟨N2, e2, e25, hE2⟩ := m_gives' hLA (fun j hj => by rw [hL5]; exact modV_hi hj)
      have hA2 : Aside (M 5) N2 := fun j hj => by rw [hE2 6 (by simp)]; exact hLA j hj
      have hEE : Eo [5, 6, 9] M N2 := Eo_trans g3 (Eo_trans (Eo_sub hLE (by simp)) (Eo_sub hE2 (by simp)))
      have hQ : allB (modV (M 5) i (M 5 1).toNat) a (M 5 2).toNat = mQ (M 5) a i := allB_congr _ (fun k hk => rung_modV hI i (by omega))
      have hiff := rung_and (d := modV (M 5) i (M 5 1).toNat) (by rw [hm2]; exact h2) (a := a) (by rw [hm2]; exact ha)
      rw [hm2, hQ] at hiff
      rw [hstep, if_neg hno]
      unfold f_X11_mending_86
      rw [e2]
      simp only [bind_s]
      rw [o_succ (by omega)]
      by_cases hq : mQ (M 5) a i = true
      · rw [if_pos hq, if_neg (fun h => h (hiff.mpr hq))]
        exact ⟨((i : Int), N2), ⟨rfl, hA2, e25, hEE⟩, rfl⟩
      · rw [if_neg hq, if_pos (fun h => hq (hiff.mp h))]
        exact ⟨(b, N2), ⟨rfl, hA2, e25, hEE⟩, rfl⟩
    by_cases gb : b < 0
    · rw [if_pos gb]
      exact hdo (fun h => h.1 gb)
    · rw [if_neg gb]
      have hbr : ∃ bn : Nat, b = (bn : Int) ∧ bn < 1024 := by
        rcases stepM_inv (mQ (M 5) a) i with ⟨h, _⟩ | ⟨x, h, hL⟩
        · omega
        · exact ⟨x, by rw [g0, h], by have := hL.2.1; omega⟩
      obtain ⟨bn, rfl, hbn⟩ := hbr
      rw [m_sizeOf' (by omega), bind_s]
      dsimp only
      rw [m_sizeOf' hbn, bind_s]
      dsimp only
      rw [tnc] at hdo hstep
      by_cases gp : pc bn ≤ pc i
      · rw [if_neg (by omega), o_succ (by omega)]
        exact ⟨((bn : Int), N), ⟨by rw [hstep, if_pos ⟨gb, gp⟩], g1, g2, g3⟩, rfl⟩
      · rw [if_pos (by omega)]
        exact hdo (fun h => gp h.2)
  · rintro n ⟨b, N⟩ ⟨g0, g1, g2, g3⟩
    replace g2 : N 5 = M 5 := g2
    show Wp (f_X11_mending_8 (n + 1) (a : Int) b ((2 ^ (M 5 1).toNat : Nat) : Int) N) _
    simp only [f_X11_mending_8, g2, tn1]
    rw [(shl1_b (n := M 5 1) (by omega)).1, if_pos (Int.le_refl _)]
    exact wp_some ⟨g0, g2, g3⟩
theorem Eo569_Qm {M N : AM} (h : Eo [5, 6, 9] M N) : Qm M N := Qm_Eo h (by intro a ha; simp at ha; unfold mcell; omega)
theorem x_fewestMends {c : Nat → Int} {M : AM} (hI : Ic c) (hR : Rh c 23 M) (a1 : Int) : Wp (f_X10_fewestMends a1 M) (fun r =>
    (¬ (0 ≤ a1 ∧ a1 < ((2 ^ (c 2).toNat : Nat) : Int)) ∧ r.1 = -1 ∧ r.2 = am_upd M 15 0 5) ∨
    ((0 ≤ a1 ∧ a1 < ((2 ^ (c 2).toNat : Nat) : Int)) ∧ r.1 = mendF c a1.toNat ∧ ∃ N, Eo [64] M N ∧ (r.2 = N ∧ ¬ mendF c a1.toNat = -1 ∨ mendF c a1.toNat = -1 ∧ r.2 = am_upd N 15 0 8))) := by
  have h2 := hI.2.2.1
  have hg := (Rh_iff.mp hR).1
  unfold f_X10_fewestMends f_X10_fewestMends_17
  rw [hg.1.2.2.2.2.1, (shl1_b (n := c 2) (by omega)).1]
  by_cases g : 0 ≤ a1 ∧ a1 < ((2 ^ (c 2).toNat : Nat) : Int)
  · have hm := pow_le1024 (n := (c 2).toNat) (by omega)
    obtain ⟨a, rfl⟩ : ∃ a : Nat, a1 = (a : Int) := ⟨a1.toNat, by omega⟩
    rw [if_neg (by omega), if_pos g.2, tnc]
    refine wp_bind (x_leastMends hI hg (a := a) (by omega)) ?_
    rintro ⟨v, N⟩ ⟨hv, hE⟩
    replace hv : v = mendF c a := hv
    subst hv
    by_cases g2 : mendF c a = -1
    · refine wp_neg (fun h => h g2) ?_
      rw [x_fail, bind_s]
      exact wp_some (Or.inr ⟨g, g2.symm, N, hE, Or.inr ⟨g2, rfl⟩⟩)
    · exact wp_pos g2 (wp_some (Or.inr ⟨g, rfl, N, hE, Or.inl ⟨rfl, g2⟩⟩))
  · refine wp_ite (fun h => ?_) (fun h => ?_)
    · rw [x_fail, bind_s]; exact wp_some (Or.inl ⟨g, rfl, rfl⟩)
    · rw [if_neg (by omega), x_fail, bind_s]; exact wp_some (Or.inl ⟨g, rfl, rfl⟩)
theorem mendF_b {c : Nat → Int} (hI : Ic c) (a : Nat) : mendF c a = -1 ∨ ∃ b : Nat, mendF c a = (b : Int) ∧ b < 1024 := by
  have h1 := hI.2.1
  have hm := pow_le1024 (n := (c 1).toNat) (by omega)
  rcases mendF_r (c := c) (a := a) with ⟨h, _⟩ | ⟨b, h, hL⟩
  · exact Or.inl h
  · exact Or.inr ⟨b, h, by have := hL.2.1; omega⟩
theorem areC {M : AM} (hI : Ic (M 5)) (a1 : Int) : f_X11_areCouples a1 M = some (if 0 ≤ a1 ∧ a1 < ((2 ^ (M 5 2).toNat : Nat) : Int) then 1 else 0, M) := by
  have h2 := hI.2.2.1
  have hb := shl1_b (n := M 5 2) (by omega)
  unfold f_X11_areCouples
  rw [tn2, hb.1, o_sub_eq (by omega) (by omega)]
  by_cases g : 0 ≤ a1 ∧ a1 < ((2 ^ (M 5 2).toNat : Nat) : Int)
  · rw [isin_t (by omega), bind_s, if_pos g, if_pos (Or.inr rfl)]
  · rw [isin_f (by omega), bind_s, if_neg g, if_pos (Or.inl rfl)]
theorem a_mends (a1 : Int) : Alike (f_X10_mends a1) (f_X11_mends a1) := by
  refine alike_q (fun c => if 0 ≤ a1 ∧ a1 < ((2 ^ (c 2).toNat : Nat) : Int) then (if mendF c a1.toNat = -1 then -1 else ((pc (mendF c a1.toNat).toNat : Nat) : Int)) else -1) (fun c => if 0 ≤ a1 ∧ a1 < ((2 ^ (c 2).toNat : Nat) : Int) then (if mendF c a1.toNat = -1 then 8 else 0) else 5) ?_ ?_
  · intro c M hI h9 hR
    obtain ⟨⟨v, N⟩, e, h⟩ := x_fewestMends hI hR a1
    unfold f_X10_mends
    rw [e, bind_s]
    dsimp only
    rcases h with ⟨g, hv, hN⟩ | ⟨g, hv, N2, hE, hN⟩
    · replace hv : v = -1 := hv
      replace hN : N = _ := hN
      rw [if_neg (fun h => h hv), if_neg g, if_neg g, hN]
      exact x_end (Qx_refl M) hR
    · replace hv : v = _ := hv
      rw [if_pos g, if_pos g]
      rcases hN with ⟨hN, g2⟩ | ⟨g2, hN⟩
      · replace hN : N = N2 := hN
        rcases mendF_b hI a1.toNat with h | ⟨b, hb, hb2⟩
        · exact absurd h g2
        · rw [if_pos (by rw [hv]; exact g2), if_neg g2, if_neg g2, hv, hb, tnc, x_bitCount hb2, bind_s, x_answer, bind_s, hN]
          exact x_end (Qx_64 hE) (Rh_64 hE hR)
      · replace hN : N = _ := hN
        rw [if_neg (fun h => h (by rw [hv]; exact g2)), if_pos g2, if_pos g2, hN]
        exact x_end (Qx_64 hE) (Rh_64 hE hR)
  · intro P hI h9
    obtain ⟨M2, hM2, e5, q2, s2, hc, hf⟩ := MS_ok P
    rw [← e5] at hI
    have h2 := hI.2.2.1
    unfold f_X11_mends
    rw [zlet_eq, zlet_eq, hM2, ← e5, areC hI, bind_s]
    by_cases g : 0 ≤ a1 ∧ a1 < ((2 ^ (M2 5 2).toNat : Nat) : Int)
    · obtain ⟨a, rfl⟩ : ∃ a : Nat, a1 = (a : Int) := ⟨a1.toNat, by omega⟩
      simp only [if_pos g, i10, not_false_eq_true, if_true, tnc]
      obtain ⟨⟨v, N⟩, e, hv, h5, hE⟩ := m_mending hI (a := a) (by omega)
      replace hv : v = _ := hv
      replace h5 : N 5 = M2 5 := h5
      replace hE : Eo [5, 6, 9] M2 N := hE
      have hN0 : N 0 = M2 0 := hE 0 (by simp)
      rw [e, bind_s]
      dsimp only
      rcases mendF_b hI a with h | ⟨b, hb, hb2⟩
      · rw [if_neg (by omega), if_pos h, if_pos h, m_refuse, bind_s]
        exact m_end (Qm_trans q2 (Eo569_Qm hE)) h5
      · rw [if_pos (by omega), if_neg (by omega), if_neg (by omega), hv, hb, tnc, m_sizeOf' hb2, bind_s]
        exact m_fin (Qm_trans q2 (Eo569_Qm hE)) h5 (by show N 0 0 = 0; rw [hN0]; exact s2)
    · simp only [if_neg g, i00, not_true_eq_false, if_false, m_refuse, bind_s]
      exact m_end q2 rfl
theorem a_mendSet (a1 : Int) : Alike (f_X10_mendSet a1) (f_X11_mendSet a1) := by
  refine alike_q (fun c => if 0 ≤ a1 ∧ a1 < ((2 ^ (c 2).toNat : Nat) : Int) then mendF c a1.toNat else -1) (fun c => if 0 ≤ a1 ∧ a1 < ((2 ^ (c 2).toNat : Nat) : Int) then (if mendF c a1.toNat = -1 then 8 else 0) else 5) ?_ ?_
  · intro c M hI h9 hR
    obtain ⟨⟨v, N⟩, e, h⟩ := x_fewestMends hI hR a1
    unfold f_X10_mendSet
    rw [e, bind_s]
    dsimp only
    rcases h with ⟨g, hv, hN⟩ | ⟨g, hv, N2, hE, hN⟩
    · replace hv : v = -1 := hv
      replace hN : N = _ := hN
      rw [if_neg (fun h => h hv), if_neg g, if_neg g, hN]
      exact x_end (Qx_refl M) hR
    · replace hv : v = _ := hv
      rw [if_pos g, if_pos g]
      rcases hN with ⟨hN, g2⟩ | ⟨g2, hN⟩
      · replace hN : N = N2 := hN
        rw [if_pos (by rw [hv]; exact g2), if_neg g2, x_answer, bind_s, hv, hN]
        exact x_end (Qx_64 hE) (Rh_64 hE hR)
      · replace hN : N = _ := hN
        rw [if_neg (fun h => h (by rw [hv]; exact g2)), if_pos g2, g2, hN]
        exact x_end (Qx_64 hE) (Rh_64 hE hR)
  · intro P hI h9
    obtain ⟨M2, hM2, e5, q2, s2, hc, hf⟩ := MS_ok P
    rw [← e5] at hI
    have h2 := hI.2.2.1
    unfold f_X11_mendSet
    rw [zlet_eq, zlet_eq, hM2, ← e5, areC hI, bind_s]
    by_cases g : 0 ≤ a1 ∧ a1 < ((2 ^ (M2 5 2).toNat : Nat) : Int)
    · obtain ⟨a, rfl⟩ : ∃ a : Nat, a1 = (a : Int) := ⟨a1.toNat, by omega⟩
      simp only [if_pos g, i10, not_false_eq_true, if_true, tnc]
      obtain ⟨⟨v, N⟩, e, hv, h5, hE⟩ := m_mending hI (a := a) (by omega)
      replace hv : v = _ := hv
      replace h5 : N 5 = M2 5 := h5
      replace hE : Eo [5, 6, 9] M2 N := hE
      have hN0 : N 0 = M2 0 := hE 0 (by simp)
      rw [e, bind_s]
      dsimp only
      rcases mendF_b hI a with h | ⟨b, hb, hb2⟩
      · rw [if_neg (by omega), if_pos h, h, m_refuse, bind_s]
        exact m_end (Qm_trans q2 (Eo569_Qm hE)) h5
      · rw [if_pos (by omega), if_neg (by omega), hv]
        exact m_fin (Qm_trans q2 (Eo569_Qm hE)) h5 (by show N 0 0 = 0; rw [hN0]; exact s2)
    · simp only [if_neg g, i00, not_true_eq_false, if_false, m_refuse, bind_s]
      exact m_end q2 rfl
