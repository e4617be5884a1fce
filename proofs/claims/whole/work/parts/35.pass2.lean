theorem ansF_cong {c c2 : Nat → Int} (h2 : c2 2 = c 2) (h3 : c2 3 = c 3) (hD : fD c2 = fD c) (hh : ∀ e : Nat, (e : Int) < c 2 → c2 (65 + e) = c (65 + e)) (hhe : ∀ e : Nat, e < 6 → c2 (47 + e) = c (47 + e)) (hshe : ∀ e : Nat, e < 6 → c2 (53 + e) = c (53 + e)) (h6 : c 2 ≤ 6) {k : Nat} (hk : k < 6) : ansF c2 k = ansF c k := by
  have key : ∀ i, i ≤ (c 2).toNat → rg i (stepA c2 k) (-1) = rg i (stepA c k) (-1) := by
    intro i
    induction i with
    | zero => intro _; rfl
    | succ i ih =>
      intro hi
      rw [rg_succ, rg_succ, ih (by omega)]
      have hb := ans_inv (c := c) k i (by omega)
      generalize rg i (stepA c k) (-1) = b at hb
      have hF : ∀ x y, FD c2 x y = FD c x y := fun x y => by unfold FD; rw [hD]
      unfold stepA
      rw [hh i (by omega), hhe i (by omega), hshe k hk, h3, hF, hF]
      by_cases g : b < 0
      · simp only [g, if_true]
      · rw [hhe b.toNat (by omega)]
  unfold ansF
  rw [h2]
  exact key _ (Nat.le_refl _)
theorem dayF_eq {c : Nat → Int} {j : Nat} (h5 : j ≠ 5) : dayF c j = if 27 ≤ j ∧ j < 37 ∧ j - 27 < (c 1).toNat then dayW c (j - 27) (c j) else if 59 ≤ j ∧ j < 83 ∧ (j - 59) % 6 < (c 2).toNat then dayK c ((j - 59) % 6) ((j - 59) / 6) (c j) else c j := by
  unfold dayF
  rw [cset_ne h5]
  rfl
/-- after t DAYS that are alike -/
def spE (c : Nat → Int) (t : Nat) : Nat → Int := cset (kC (spnK c t) c (c 2).toNat) 5 (c 5 + (t : Int))
theorem spE_eq {c : Nat → Int} {t j : Nat} (h5 : j ≠ 5) : spE c t j = if 59 ≤ j ∧ j < 83 ∧ (j - 59) % 6 < (c 2).toNat then spnK c t ((j - 59) % 6) ((j - 59) / 6) (c j) else c j := by
  unfold spE
  rw [cset_ne h5]
  rfl
theorem spE_lo {c : Nat → Int} {t j : Nat} (h5 : j ≠ 5) (h : j < 59 ∨ 83 ≤ j) : spE c t j = c j := by rw [spE_eq h5, if_neg (by omega)]
theorem spE_k {c : Nat → Int} {t k r : Nat} (hk : (k : Int) < c 2) (h6 : k < 6) (hr : r < 4) : spE c t (59 + 6 * r + k) = spnK c t k r (c (59 + 6 * r + k)) := by
  have e1 : (59 + 6 * r + k - 59) % 6 = k := by omega
  have e2 : (59 + 6 * r + k - 59) / 6 = r := by omega
  rw [spE_eq (by omega), e1, e2, if_pos (by omega)]
/-- nobody is gone ahead of day t -/
def alikeP (c : Nat → Int) (t : Int) : Prop := ∀ k : Nat, (k : Int) < c 2 → ¬ c (65 + k) = 0 → ¬ ansF c k = (k : Int) → t * lossF c k < c (59 + k)
theorem spE_hold {c : Nat → Int} {t : Nat} (ha : alikeP c t) (h2 : c 2 ≤ 6) {k : Nat} (hk : (k : Int) < c 2) : spE c t (65 + k) = c (65 + k) := by
  have e : spE c t (65 + k) = spnK c t k 1 (c (65 + k)) := spE_k (r := 1) hk (by omega) (by omega)
  rw [e]
  unfold spnK
  by_cases g : c (65 + k) = 0
  · rw [if_pos g]
  · rw [if_neg g]
    by_cases g2 : ansF c k = (k : Int)
    · rw [if_pos g2, if_neg (by omega), if_neg (by omega)]
    · have := ha k hk g g2
      rw [if_neg g2, if_neg (by omega), if_pos rfl, if_neg (by omega)]
theorem fD_spE {c : Nat → Int} (hI : Ic c) (t : Nat) : fD (spE c t) = fD c := by
  have h1 := hI.2.1
  exact fD_cong (spE_lo (by decide) (by omega)) (spE_lo (by decide) (by omega)) (fun w hw => ⟨spE_lo (by omega) (by omega), spE_lo (by omega) (by omega), spE_lo (by omega) (by omega), spE_lo (by omega) (by omega)⟩)
theorem ans_spE {c : Nat → Int} (hI : Ic c) {t : Nat} (ha : alikeP c t) {k : Nat} (hk : k < 6) : ansF (spE c t) k = ansF c k := by
  have h2 := hI.2.2.1
  exact ansF_cong (spE_lo (by decide) (by omega)) (spE_lo (by decide) (by omega)) (fD_spE hI t) (fun e he => spE_hold ha (by omega) he) (fun e he => spE_lo (by omega) (by omega)) (fun e he => spE_lo (by omega) (by omega)) h2.2 hk
theorem spK_step {c : Nat → Int} (hI : Ic c) {t : Nat} (ha : alikeP c t) {k r : Nat} (hk : (k : Int) < c 2) (hr : r < 4) : dayK (spE c t) k r (spE c t (59 + 6 * r + k)) = spnK c ((t + 1 : Nat) : Int) k r (c (59 + 6 * r + k)) := by
  have h2 := hI.2.2.1
  have hI2 := Ic_k hI hk
  have hl := lossF_b c k
  have hlw : lossF c k = if ansF c k < 0 then 1 else 2 := rfl
  have e59 : spE c t (59 + k) = spnK c t k 0 (c (59 + k)) := spE_k (r := 0) hk (by omega) (by omega)
  rw [spE_k hk (by omega) hr]
  unfold dayK
  rw [spE_hold ha h2.2 hk]
  unfold nlove
  rw [ans_spE hI ha (by omega), e59]
  generalize hv : c (59 + 6 * r + k) = v
  by_cases g : c (65 + k) = 0
  · unfold spnK; rw [if_pos g, if_pos g, if_pos g]
  · have hlove := hI2.2.2.2.2.1 (by omega)
    unfold spnK
    simp only [g, if_false]
    by_cases g2 : ansF c k = (k : Int)
    · simp only [g2, if_true, not_true_eq_false, false_and, if_false]
      rcases (by omega : r = 0 ∨ r = 1 ∨ r = 2 ∨ r = 3) with rfl | rfl | rfl | rfl
      · simp only [if_true]
        replace hv : c (59 + k) = v := hv
        rw [hv]; omega
      · simp only [show ¬ (1 : Nat) = 0 by decide, show ¬ (1 : Nat) = 2 by decide, if_false, if_true]
        rw [if_neg (by omega)]
      · simp only [show ¬ (2 : Nat) = 0 by decide, show ¬ (2 : Nat) = 1 by decide, if_false, if_true]
        omega
      · simp only [show ¬ (3 : Nat) = 0 by decide, show ¬ (3 : Nat) = 1 by decide, show ¬ (3 : Nat) = 2 by decide, if_false, if_true]
    · have hlt := ha k hk g g2
      simp only [g2, if_false, not_false_eq_true, true_and]
      have hL := hI2.2.2.1
      rcases (by omega : r = 0 ∨ r = 1 ∨ r = 2 ∨ r = 3) with rfl | rfl | rfl | rfl
      · simp only [if_true]
        replace hv : c (59 + k) = v := hv
        rw [hv] at hlt hL ⊢
        by_cases g3 : ansF c k < 0
        · rw [if_pos g3] at hlw
          rw [if_pos g3, hlw]; rw [hlw] at hlt; omega
        · rw [if_neg g3] at hlw
          rw [if_neg g3, hlw]; rw [hlw] at hlt; omega
      · simp only [show ¬ (1 : Nat) = 0 by decide, if_false, if_true]
        by_cases g3 : ansF c k < 0
        · rw [if_pos g3] at hlw
          rw [if_pos g3, hlw]; rw [hlw] at hlt
          by_cases g4 : max 0 (c (59 + k) - ((t + 1 : Nat) : Int) * 1) = 0
          · rw [if_pos g4, if_pos (by omega)]
          · rw [if_neg g4, if_neg (by omega), if_neg (by omega)]
        · rw [if_neg g3] at hlw
          rw [if_neg g3, hlw]; rw [hlw] at hlt
          by_cases g4 : max 0 (c (59 + k) - ((t + 1 : Nat) : Int) * 2) = 0
          · rw [if_pos g4, if_pos (by omega)]
          · rw [if_neg g4, if_neg (by omega), if_neg (by omega)]
      · simp only [show ¬ (2 : Nat) = 0 by decide, show ¬ (2 : Nat) = 1 by decide, show ¬ (2 : Nat) = 3 by decide, if_false, if_true]
      · simp only [show ¬ (3 : Nat) = 0 by decide, show ¬ (3 : Nat) = 1 by decide, show ¬ (3 : Nat) = 2 by decide, if_false, if_true]
        by_cases g3 : 0 ≤ ansF c k
        · rw [if_pos g3, if_pos g3, if_pos g3]; omega
        · rw [if_neg g3, if_neg g3, if_neg g3]
theorem spE_0 {c : Nat → Int} (hI : Ic c) : spE c 0 = c := by
  have h2 := hI.2.2.1
  funext j
  by_cases h5 : j = 5
  · subst h5
    show cset _ 5 (c 5 + ((0 : Nat) : Int)) 5 = c 5
    rw [cset_eq]; omega
  · rw [spE_eq h5]
    split
    · rename_i h
      obtain ⟨k, hk⟩ : ∃ k, k = (j - 59) % 6 := ⟨_, rfl⟩
      obtain ⟨r, hr⟩ : ∃ r, r = (j - 59) / 6 := ⟨_, rfl⟩
      have hj : j = 59 + 6 * r + k := by omega
      have hI2 := Ic_k hI (k := k) (by omega)
      rw [← hk, ← hr]
      unfold spnK
      by_cases g : c (65 + k) = 0
      · rw [if_pos g]
      · have hlove := hI2.2.2.2.2.1 (by omega)
        have hl := lossF_b c k
        have h0 : ((0 : Nat) : Int) * lossF c k = 0 := by simp
        rw [if_neg g, h0]
        by_cases g2 : ansF c k = (k : Int)
        · rw [if_pos g2]
          by_cases e0 : r = 0
          · have hj2 : j = 59 + k := by omega
            rw [if_pos e0, hj2]
            omega
          · rw [if_neg e0]
            split
            · omega
            · rfl
        · rw [if_neg g2]
          by_cases e0 : r = 0
          · have hj2 : j = 59 + k := by omega
            rw [if_pos e0, hj2]
            omega
          · rw [if_neg e0]
            by_cases e1 : r = 1
            · rw [if_pos e1, if_neg (by omega)]
            · rw [if_neg e1]
              by_cases e3 : r = 3
              · rw [if_pos e3]
                split
                · omega
                · rfl
              · rw [if_neg e3]
    · rfl
/-- a DAY more -/
theorem spE_step {c : Nat → Int} (hI : Ic c) (hs : ¬ stP c) {t : Nat} (ha : alikeP c t) : dayF (spE c t) = spE c (t + 1) := by
  have h1 := hI.2.1
  have h2 := hI.2.2.1
  funext j
  by_cases h5 : j = 5
  · subst h5
    rw [dayF_5]
    show cset _ 5 (c 5 + (t : Int)) 5 + 1 = cset _ 5 (c 5 + ((t + 1 : Nat) : Int)) 5
    rw [cset_eq, cset_eq]; omega
  · rw [dayF_eq h5, spE_eq (t := t + 1) h5, spE_lo (j := 1) (by decide) (by omega), spE_lo (j := 2) (by decide) (by omega)]
    by_cases g : 27 ≤ j ∧ j < 37 ∧ j - 27 < (c 1).toNat
    · rw [if_pos g, if_neg (by omega), spE_lo h5 (by omega)]
      unfold dayW
      rw [spE_lo (j := 6) (by decide) (by omega), spE_lo (j := 37 + (j - 27)) (by omega) (by omega)]
      have hw := Ic_w hI (w := j - 27) (by omega)
      have ej : 27 + (j - 27) = j := by omega
      rw [ej] at hw
      by_cases g2 : c 6 = 1 ∧ c (37 + (j - 27)) = 1
      · rw [if_pos g2]
        by_cases g3 : c j < 9
        · exact absurd ⟨j - 27, by omega, g2.1, g2.2, by rw [ej]; exact g3⟩ hs
        · omega
      · rw [if_neg g2]
    · rw [if_neg g]
      by_cases g2 : 59 ≤ j ∧ j < 83 ∧ (j - 59) % 6 < (c 2).toNat
      · rw [if_pos g2, if_pos g2]
        obtain ⟨k, hk⟩ : ∃ k, k = (j - 59) % 6 := ⟨_, rfl⟩
        obtain ⟨r, hr⟩ : ∃ r, r = (j - 59) / 6 := ⟨_, rfl⟩
        have hj : j = 59 + 6 * r + k := by omega
        rw [← hk, ← hr]
        have := spK_step hI ha (k := k) (r := r) (by omega) (by omega)
        rw [hj]
        exact this
      · rw [if_neg g2, if_neg g2]
        exact (spE_eq h5).trans (if_neg g2)
theorem alike_le {c : Nat → Int} {s t : Int} (h : alikeP c t) (hst : s ≤ t) : alikeP c s := by
  intro k hk g1 g2
  have h1 := h k hk g1 g2
  have hl := lossF_b c k
  rcases hl with hl | hl <;> rw [hl] at h1 ⊢ <;> omega
theorem dayN_spE {c : Nat → Int} (hI : Ic c) (hs : ¬ stP c) : ∀ t : Nat, alikeP c ((t : Int) - 1) → dayN c t = spE c t
  | 0, _ => (spE_0 hI).symm
  | t + 1, h => by
    show dayF (dayN c t) = _
    rw [dayN_spE hI hs t (alike_le h (by omega)), spE_step hI hs (alike_le h (by omega))]
/-- one DAY, as the class has it -/
theorem dayF_class {c : Nat → Int} (hI : Ic c) (h6 : c 6 = 1) : dayF c = cset (strV (kC (spnK c 1) c (c 2).toNat) (c 1).toNat) 5 (c 5 + 1) := by
  have h1 := hI.2.1
  have h2 := hI.2.2.1
  have ha : alikeP c ((0 : Nat) : Int) := by
    intro k hk g1 g2
    have := (Ic_k hI hk).2.2.2.2.1 (by have := (Ic_k hI hk).2.2.2.1; omega)
    simp
    omega
  have e0 := spE_0 hI
  funext j
  by_cases h5 : j = 5
  · subst h5; rw [dayF_5, cset_eq]
  · rw [dayF_eq h5, cset_ne h5]
    by_cases g : 27 ≤ j ∧ j < 37 ∧ j - 27 < (c 1).toNat
    · rw [if_pos g]
      unfold strV dayW
      have hw := Ic_w hI (w := j - 27) (by omega)
      have ej : 27 + (j - 27) = j := by omega
      have ej2 : 37 + (j - 27) = 10 + j := by omega
      rw [ej, ej2] at hw
      rw [ej2, if_pos g, kC_lo (by omega), kC_lo (by omega)]
      by_cases g2 : c (10 + j) = 1
      · by_cases g3 : c j < 9
        · rw [if_pos ⟨h6, g2⟩, if_pos ⟨g2, g3⟩]; omega
        · rw [if_pos ⟨h6, g2⟩, if_neg (fun h => g3 h.2)]; omega
      · rw [if_neg (fun h => g2 h.2), if_neg (fun h => g2 h.1)]
    · rw [if_neg g]
      have e1 : strV (kC (spnK c 1) c (c 2).toNat) (c 1).toNat j = kC (spnK c 1) c (c 2).toNat j := by unfold strV; rw [if_neg g]
      rw [e1]
      unfold kC
      by_cases g2 : 59 ≤ j ∧ j < 83 ∧ (j - 59) % 6 < (c 2).toNat
      · rw [if_pos g2, if_pos g2]
        obtain ⟨k, hk⟩ : ∃ k, k = (j - 59) % 6 := ⟨_, rfl⟩
        obtain ⟨r, hr⟩ : ∃ r, r = (j - 59) / 6 := ⟨_, rfl⟩
        have hj : j = 59 + 6 * r + k := by omega
        rw [← hk, ← hr]
        have := spK_step hI ha (k := k) (r := r) (by omega) (by omega)
        rw [e0] at this
        rw [hj]
        exact this
      · rw [if_neg g2, if_neg g2]
def lostB (c : Nat → Int) (t k : Nat) : Bool := decide (¬ c (65 + k) = 0 ∧ dayN c t (65 + k) = 0)
/-- cells that Days at d with a House at q touch -/
def DE (d q : Nat) (M N : AM) : Prop := ∀ a, a ≠ q → a ≠ q + 3 → a ≠ q + 6 → a ≠ q + 7 → a ≠ q + 8 → a ≠ q + 10 → a ≠ d + 1 → N a = M a
theorem x_passSpan {c : Nat → Int} {d q : Nat} {M : AM} (hd : q + 10 < d) (hI : Ic c) {most : Int} (h5 : c 5 + most ≤ 20000) (hm : 1 ≤ most) (hR : Rh c q M) :
    Wp (f_X0_passSpan d q most M) (fun r => ∃ t : Nat, 1 ≤ t ∧ (t : Int) ≤ most ∧ r.1 = (setB (lostB c t) (c 2).toNat : Nat) ∧ Rh (dayN c t) q r.2 ∧ (∀ s : Nat, s < t → ∀ k : Nat, (k : Int) < c 2 → dayN c s (65 + k) = c (65 + k)) ∧ DE d q M r.2) := by
  have hc2 := hI.2.2.1
  have hc5 := hI.2.2.2.2.2.1
  have hc6 := hI.2.2.2.2.2.2.1
  unfold f_X0_passSpan
  refine wp_pos (by omega) ?_
  refine up_loopP0 (fun n i (s : AM) => f_X0_passSpan_9 n d q most (i : Int) s) (fun i s => Rh c q s ∧ (∀ k : Nat, k < i → s (d + 1) k = if c (65 + k) = 0 then -1 else ansF c k) ∧ DE d q M s) _ (c 2).toNat M ⟨hR, fun k h => by omega, fun _ _ _ _ _ _ _ _ => rfl⟩ ?_ ?_ (by omega)
  · rintro n i M' hi ⟨h1, h2, h3⟩
    have hg := (Rh_iff.mp h1).1
    left
    show ∃ s2 : AM, _ ∧ f_X0_passSpan_9 (n + 1) d q most (i : Int) M' = _
    simp only [f_X0_passSpan_9]
    rw [hg.1.2.2.2.2.1, if_neg (by omega), x_isHolding (Ib_of hI) hg (by omega), bind_s]
    have hput : ∀ (N : AM) (x : Int), Rh c q N → (∀ a, a ≠ q → a ≠ q + 10 → N a = M' a) → x = (if c (65 + i) = 0 then -1 else ansF c i) →
        Rh c q (am_upd N (d + 1) i x) ∧ (∀ k : Nat, k < i + 1 → am_upd N (d + 1) i x (d + 1) k = if c (65 + k) = 0 then -1 else ansF c k) ∧ DE d q M (am_upd N (d + 1) i x) := by
      intro N x hN hE hx
      refine ⟨Rh_cong (fun j hj => am_upd_cell (by omega)) hN, fun k hk => ?_, fun a a1 a2 a3 a4 a5 a6 a7 => ?_⟩
      · by_cases e : k = i
        · subst e; rw [am_upd_self]; exact hx
        · rw [am_upd_ne (fun h => e h.2), hE _ (by omega) (by omega)]; exact h2 k (by omega)
      · rw [am_upd_cell a7, hE a a1 a6]; exact h3 a a1 a2 a3 a4 a5 a6 a7
    by_cases g : c (65 + i) = 0
    · have g' : ¬ c (65 + i) = 1 := by omega
      simp only [g', if_false, if_true]
      rw [if_pos (by omega), zlet_eq, tnc, o_succ (by omega)]
      exact ⟨_, hput M' (-1) h1 (fun _ _ _ => rfl) (by rw [if_pos g]), rfl⟩
    · have hk := Ic_k hI (k := i) (by omega)
      have g' : c (65 + i) = 1 := by omega
      simp only [g', if_true, show ¬ (1 : Int) = 0 by decide, if_false]
      obtain ⟨N, eN, hN⟩ := x_answerOf hI h1 (k := i) (by omega)
      rw [eN, bind_s, if_pos (by omega), zlet_eq, tnc, o_succ (by omega)]
      exact ⟨_, hput N _ hN.1 hN.2 (by rw [if_neg g]), rfl⟩
  · rintro n M' ⟨h1, h2, h3⟩
    have hg := (Rh_iff.mp h1).1
    have hz := (Rh_iff.mp h1).2
    have hW : Wh c d M' := fun k hk => h2 k (by omega)
    show Wp (f_X0_passSpan_9 (n + 1) d q most (((c 2).toNat : Nat) : Int) M') _
    simp only [f_X0_passSpan_9]
    rw [hg.1.2.2.2.2.1, if_pos (by omega)]
    refine wp_bind (x_alike hI hg hW ⟨hm, by omega⟩) ?_
    rintro ⟨sp, N⟩ ⟨hN, hsp⟩
    replace hN : N = M' := hN
    subst hN
    have hab := alk_b hI most hm (c 2).toNat (Nat.le_refl _)
    -- how many days the span has
    obtain ⟨t, ht1, htm, hts, hta⟩ : ∃ t : Nat, 1 ≤ t ∧ (t : Int) ≤ most ∧ o_max 1 sp = (t : Int) ∧ (t = 1 ∧ stP c ∨ alikeP c ((t : Int) - 1) ∧ ¬ stP c) := by
      rcases hsp with ⟨hsp, hs⟩ | ⟨hsp, hs⟩
      · replace hsp : sp = 1 := hsp
        exact ⟨1, by omega, by omega, by rw [o_max_eq, hsp]; rfl, Or.inl ⟨rfl, hs⟩⟩
      · replace hsp : sp = alkF c (c 2).toNat most := hsp
        refine ⟨(alkF c (c 2).toNat most).toNat, by omega, by omega, by rw [o_max_eq, hsp]; omega, Or.inr ⟨?_, hs⟩⟩
        intro k hk g1 g2
        have := hab.2.2 k (by omega) g1 g2
        have e : (((alkF c (c 2).toNat most).toNat : Nat) : Int) = alkF c (c 2).toNat most := by omega
        rw [e]; exact this
    simp only [hts]
    refine wp_bind (x_love hd hI hg hW (t := (t : Int)) (by omega) (by omega)) ?_
    rintro ⟨p, N1⟩ ⟨hp, hR1, hE1, hj1⟩
    replace hp : p = (setB (spart c t) (c 2).toNat : Nat) := hp
    replace hR1 : Rg (kC (spnK c t) c (c 2).toNat) q N1 := hR1
    replace hE1 : ∀ a, a ≠ q → a ≠ q + 6 → a ≠ q + 7 → a ≠ q + 8 → N1 a = N a := hE1
    replace hj1 : ∀ j, j ≠ 8 → N1 q j = N q j := hj1
    have k0 : kC (spnK c t) c (c 2).toNat 0 = c 0 := kC_lo (by omega)
    have k1 : kC (spnK c t) c (c 2).toNat 1 = c 1 := kC_lo (by omega)
    have k2 : kC (spnK c t) c (c 2).toNat 2 = c 2 := kC_lo (by omega)
    have k5 : kC (spnK c t) c (c 2).toNat 5 = c 5 := kC_lo (by omega)
    have k6 : kC (spnK c t) c (c 2).toNat 6 = c 6 := kC_lo (by omega)
    have hIb : Ib (kC (spnK c t) c (c 2).toNat) := by unfold Ib; rw [k0, k1, k2]; exact Ib_of hI
    have hc1 := hI.2.1
    have kD : fD (kC (spnK c t) c (c 2).toNat) = fD c := fD_cong k0 k1 (fun w hw => ⟨kC_lo (by omega), kC_lo (by omega), kC_lo (by omega), kC_lo (by omega)⟩)
    have kst : stP (kC (spnK c t) c (c 2).toNat) ↔ stP c := by
      unfold stP
      rw [k1, k6]
      constructor
      · rintro ⟨w, h1, h2, h3, h4⟩
        rw [kC_lo (by omega)] at h3
        rw [kC_lo (by omega)] at h4
        exact ⟨w, h1, h2, h3, h4⟩
      · rintro ⟨w, h1, h2, h3, h4⟩
        refine ⟨w, h1, h2, ?_, ?_⟩
        · rw [kC_lo (by omega)]; exact h3
        · rw [kC_lo (by omega)]; exact h4
    have hRh1 : Rh (kC (spnK c t) c (c 2).toNat) q N1 := Rh_iff.mpr ⟨hR1, Rz_cong k0 kD (hj1 19 (by decide)) (hE1 _ (by omega) (by omega) (by omega) (by omega)) hz⟩
    have hlost : ∀ e : Nat → Int, (∀ k : Nat, (k : Int) < c 2 → e (65 + k) = kC (spnK c t) c (c 2).toNat (65 + k)) → ∀ k, k < (c 2).toNat → spart c t k = decide (¬ c (65 + k) = 0 ∧ e (65 + k) = 0) := by
      intro e he k hk
      have e1 : kC (spnK c t) c (c 2).toNat (65 + k) = spnK c t k 1 (c (65 + k)) := by
        have := kC_at (f := spnK c t) (c := c) (i := (c 2).toNat) (k := k) (r := 1) (by omega) (by omega)
        rw [if_pos hk] at this
        exact this
      rw [he k (by omega), e1]
      unfold spart spnK
      by_cases g : c (65 + k) = 0
      · simp [g]
      · by_cases g2 : ansF c k = (k : Int)
        · simp [g, g2]
        · simp only [g, g2, if_false, show ¬ (1 : Nat) = 0 by decide, if_true, not_false_eq_true, true_and]
          by_cases g3 : max 0 (c (59 + k) - (t : Int) * lossF c k) = 0
          · simp [g3]
          · simp [g3, g]
    refine wp_bind (x_isStretching hIb (by rw [k6]; exact hc6) hR1) ?_
    rintro ⟨v, N2⟩ ⟨hN2, hv⟩
    replace hN2 : N2 = N1 := hN2
    subst hN2
    rcases hta with ⟨ht, hs⟩ | ⟨ha, hs⟩
    · -- the wires stretch
      subst ht
      have hv : v = 1 := by
        rcases hv with ⟨h, _⟩ | ⟨_, h⟩
        · exact h
        · exact absurd (kst.mpr hs) h
      subst hv
      refine wp_neg (show ¬ (1 : Int) = 0 by decide) ?_
      have h6 : c 6 = 1 := by obtain ⟨w, _, h, _⟩ := hs; exact h
      refine wp_bind (x_stretchAll hIb (fun w hw => by
        rw [k1] at hw
        rw [kC_lo (by omega)]
        exact (Ic_w hI hw).2.2.1) hRh1) ?_
      rintro N3 ⟨hR3, hE3, hj3⟩
      replace hR3 : Rh (strV (kC (spnK c ((1 : Nat) : Int)) c (c 2).toNat) (kC (spnK c ((1 : Nat) : Int)) c (c 2).toNat 1).toNat) q N3 := hR3
      rw [k1] at hR3
      have hN5 : N3 q 5 = c 5 := by rw [hR3.1.2.2.2.2.2.1, strV_ne (by omega), k5]
      rw [hN5, o_add_eq (by omega) (by omega)]
      refine wp_let (wp_some ⟨1, by omega, htm, ?_, ?_, ?_, ?_⟩)
      · show p = _
        rw [hp]
        refine congrArg (fun x : Nat => (x : Int)) (setB_congr _ (fun k hk => ?_))
        refine hlost (dayN c 1) (fun k hk => ?_) k hk
        show dayF c (65 + k) = _
        rw [dayF_class hI h6, cset_ne (by omega), strV_ne (by omega)]
        rfl
      · have hIb3 : Ib (strV (kC (spnK c ((1 : Nat) : Int)) c (c 2).toNat) (c 1).toNat) := by unfold Ib; rw [strV_ne (by omega), strV_ne (by omega), strV_ne (by omega)]; exact hIb
        obtain ⟨hg3, hz3⟩ := Rh_iff.mp hR3
        have e1 : dayN c 1 = cset (strV (kC (spnK c ((1 : Nat) : Int)) c (c 2).toNat) (c 1).toNat) 5 (c 5 + ((1 : Nat) : Int)) := dayF_class hI h6
        show Rh (dayN c 1) q (am_upd N3 q 5 (c 5 + ((1 : Nat) : Int)))
        rw [e1]
        refine Rh_iff.mpr ⟨Rg_day hIb3 _ hg3, Rz_cong (cset_ne (by decide)) ?_ (am_upd_ne (by omega)) (am_upd_cell (by omega)) hz3⟩
        have hb1 := hIb3.2.1
        exact fD_cong (cset_ne (by omega)) (cset_ne (by omega)) (fun w hw => ⟨cset_ne (by omega), cset_ne (by omega), cset_ne (by omega), cset_ne (by omega)⟩)
      · intro s hs2 k hk
        have : s = 0 := by omega
        subst this; rfl
      · intro a a1 a2 a3 a4 a5 a6 a7
        show am_upd N3 q 5 _ a = M a
        rw [am_upd_cell a1, hE3 a a1 a2]
        show N2 a = M a
        rw [hE1 a a1 a3 a4 a5]
        exact h3 a a1 a2 a3 a4 a5 a6 a7
    · -- they do not
      have hv : v = 0 := by
        rcases hv with ⟨_, h⟩ | ⟨h, _⟩
        · exact absurd (kst.mp h) hs
        · exact h
      subst hv
      refine wp_pos rfl ?_
      have hN5 : N2 q 5 = c 5 := by rw [hR1.1.2.2.2.2.2.1, k5]
      dsimp only
      have eN : dayN c t = cset (kC (spnK c t) c (c 2).toNat) 5 (c 5 + (t : Int)) := dayN_spE hI hs t ha
      rw [hN5, o_add_eq (by omega) (by omega)]
      refine wp_let (wp_some ⟨t, ht1, htm, ?_, ?_, ?_, ?_⟩)
      · show p = _
        rw [hp]
        refine congrArg (fun x : Nat => (x : Int)) (setB_congr _ (fun k hk => ?_))
        refine hlost (dayN c t) (fun k hk => ?_) k hk
        rw [eN, cset_ne (by omega)]
      · show Rh (dayN c t) q (am_upd N2 q 5 (c 5 + (t : Int)))
        rw [eN]
        obtain ⟨hg1, hz1⟩ := Rh_iff.mp hRh1
        refine Rh_iff.mpr ⟨Rg_day hIb _ hg1, Rz_cong (cset_ne (by decide)) ?_ (am_upd_ne (by omega)) (am_upd_cell (by omega)) hz1⟩
        have hb1 := hIb.2.1
        exact fD_cong (cset_ne (by omega)) (cset_ne (by omega)) (fun w hw => ⟨cset_ne (by omega), cset_ne (by omega), cset_ne (by omega), cset_ne (by omega)⟩)
      · intro s hs2 k hk
        rw [dayN_spE hI hs s (alike_le ha (by omega))]
        exact spE_hold (alike_le ha (by omega)) hc2.2 hk
      · intro a a1 a2 a3 a4 a5 a6 a7
        show am_upd N2 q 5 _ a = M a
        rw [am_upd_cell a1, hE1 a a1 a3 a4 a5]
        exact h3 a a1 a2 a3 a4 a5 a6 a7
/-- two sets together -/
theorem o_or_setB (p p2 : Nat → Bool) {n : Nat} (h : n ≤ 30) : o_or (setB p n : Int) (setB p2 n : Int) = (setB (fun i => p i || p2 i) n : Nat) := by
  have h1 := setB_lt p n
  have h2 := setB_lt p2 n
  have h3 := pow31 h
  rw [o_or_nat (by omega) (by omega)]
  congr 1
  refine setB_eq (Nat.or_lt_two_pow h1 h2) (fun i hi => ?_)
  rw [Nat.testBit_or, setB_bit, setB_bit]
  simp [hi]
theorem lost_add {c : Nat → Int} (h2 : c 2 ≤ 6) {s t k : Nat} (hk : (k : Int) < c 2) : (lostB c s k || lostB (dayN c s) t k) = lostB c (s + t) k := by
  have e2 : dayN c s 2 = c 2 := dayN_lo (by decide) (by omega) s
  have h3 := dayN_hold (c := c) hk (by omega) s
  have h4 := dayN_hold (c := dayN c s) (k := k) (by rw [e2]; exact hk) (by omega) t
  unfold lostB
  rw [dayN_add] at h4 ⊢
  by_cases g : c (65 + k) = 0
  · have g2 : dayN c s (65 + k) = 0 := by rcases h3 with h | h <;> omega
    simp [g, g2]
  · by_cases g2 : dayN c s (65 + k) = 0
    · have g3 : dayN c (s + t) (65 + k) = 0 := by rcases h4 with h | h <;> omega
      simp [g, g2, g3]
    · simp [g, g2]
theorem DE_trans {d q : Nat} {M N P : AM} (h1 : DE d q M N) (h2 : DE d q N P) : DE d q M P := fun a a1 a2 a3 a4 a5 a6 a7 => (h2 a a1 a2 a3 a4 a5 a6 a7).trans (h1 a a1 a2 a3 a4 a5 a6 a7)
/-- so many DAYS pass, in the class -/
theorem x_pass {c : Nat → Int} {d q : Nat} {M : AM} (hd : q + 10 < d) (hI : Ic c) {many : Nat} (h5 : c 5 + (many : Int) ≤ 20000) (hR : Rh c q M) :
    Wp (f_X0_pass d q (many : Int) M) (fun r => r.1 = (setB (lostB c many) (c 2).toNat : Nat) ∧ Rh (dayN c many) q r.2 ∧ DE d q M r.2) := by
  have hc2 := hI.2.2.1
  have hc5 := hI.2.2.2.2.2.1
  have hq5 : M q 5 = c 5 := hR.1.2.2.2.2.2.1
  unfold f_X0_pass
  rw [hq5, o_add_eq (by omega) (by omega)]
  refine up_loopP0 (fun n i (s : Int × AM) => f_X0_pass_13 n d q (many : Int) s.1 (c 5 + (many : Int)) (i : Int) s.2)
    (fun i s => ∃ t : Nat, i ≤ t ∧ t ≤ many ∧ s.1 = (setB (lostB c t) (c 2).toNat : Nat) ∧ Rh (dayN c t) q s.2 ∧ DE d q M s.2) _ many (0, M) ?_ ?_ ?_ (by omega)
  · refine ⟨0, Nat.le_refl 0, Nat.zero_le _, ?_, hR, fun _ _ _ _ _ _ _ _ => rfl⟩
    have e : setB (lostB c 0) (c 2).toNat = setB (fun _ => false) (c 2).toNat := setB_congr _ (fun k _ => by
      show decide (¬ c (65 + k) = 0 ∧ c (65 + k) = 0) = false
      by_cases g : c (65 + k) = 0 <;> simp [g])
    have e2 : ∀ n, setB (fun _ => false) n = 0 := by
      intro n
      induction n with
      | zero => rfl
      | succ n ih => unfold setB; rw [ih]; simp
    show (0 : Int) = _
    rw [e, e2]; rfl
  · rintro n i ⟨p, M'⟩ hi ⟨t, ht1, ht2, hp, hRt, hE⟩
    replace hp : p = (setB (lostB c t) (c 2).toNat : Nat) := hp
    replace hRt : Rh (dayN c t) q M' := hRt
    replace hE : DE d q M M' := hE
    have e5 : M' q 5 = c 5 + (t : Int) := by rw [hRt.1.2.2.2.2.2.1, dayN_5]
    have e2 : dayN c t 2 = c 2 := dayN_lo (by decide) (by omega) t
    show (∃ s2 : Int × AM, _ ∧ f_X0_pass_13 (n + 1) d q (many : Int) p (c 5 + (many : Int)) (i : Int) M' = _) ∨ Wp (f_X0_pass_13 (n + 1) d q (many : Int) p (c 5 + (many : Int)) (i : Int) M') _
    simp only [f_X0_pass_13]
    rw [if_neg (by omega), e5]
    by_cases g : t = many
    · right
      refine wp_pos (by omega) (wp_some ⟨?_, ?_, hE⟩)
      · rw [← g]; exact hp
      · rw [← g]; exact hRt
    · left
      rw [if_neg (by omega), o_sub_eq (by omega) (by omega)]
      have hIt := Ic_dayN hI t (by omega)
      obtain ⟨⟨v, N⟩, eN, s, hs1, hs2, hv, hRs, _, hEs⟩ := x_passSpan hd hIt (most := c 5 + (many : Int) - (c 5 + (t : Int))) (by rw [dayN_5]; omega) (by omega) hRt
      replace hv : v = (setB (lostB (dayN c t) s) (dayN c t 2).toNat : Nat) := hv
      replace hRs : Rh (dayN (dayN c t) s) q N := hRs
      rw [eN, bind_s, o_succ (by omega)]
      refine ⟨(o_or p v, N), ⟨t + s, by omega, by omega, ?_, ?_, DE_trans hE hEs⟩, rfl⟩
      · show o_or p v = _
        rw [hp, hv, e2, o_or_setB _ _ (by omega)]
        refine congrArg (fun x : Nat => (x : Int)) (setB_congr _ (fun k hk => lost_add hc2.2 (by omega)))
      · rw [dayN_add] at hRs; exact hRs
  · rintro n ⟨p, M'⟩ ⟨t, ht1, ht2, hp, hRt, hE⟩
    have e : t = many := by omega
    subst e
    show Wp (f_X0_pass_13 (n + 1) d q (t : Int) p (c 5 + (t : Int)) (t : Int) M') _
    simp only [f_X0_pass_13]
    exact wp_pos (Int.le_refl _) (wp_some ⟨hp, hRt, hE⟩)
