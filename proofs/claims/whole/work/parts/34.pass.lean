/-! wires that stretch; spans; passing -/
def stP (c : Nat → Int) : Prop := ∃ w : Nat, (w : Int) < c 1 ∧ c 6 = 1 ∧ c (37 + w) = 1 ∧ c (27 + w) < 9
theorem x_isStretching {c : Nat → Int} {q : Nat} {M : AM} (hI : Ib c) (h6 : c 6 = 0 ∨ c 6 = 1) (hR : Rg c q M) : Wp (f_X1_isStretching q M) (fun r => r.2 = M ∧ (r.1 = 1 ∧ stP c ∨ r.1 = 0 ∧ ¬ stP c)) := by
  have hc1 := hI.2.1
  unfold f_X1_isStretching
  refine up_loopP0 (fun n i (s : Unit) => f_X1_isStretching_2 n q (i : Int) M) (fun i _ => ∀ w : Nat, w < i → ¬ (c 6 = 1 ∧ c (37 + w) = 1 ∧ c (27 + w) < 9)) _ (c 1).toNat () (fun w h => by omega) ?_ ?_ (by omega)
  · intro n i s hi hinv
    have hi2 : (i : Int) < c 1 := by omega
    show (∃ s2 : Unit, _ ∧ f_X1_isStretching_2 (n + 1) q (i : Int) M = f_X1_isStretching_2 n q _ M) ∨ Wp (f_X1_isStretching_2 (n + 1) q (i : Int) M) _
    simp only [f_X1_isStretching_2]
    rw [hR.1.2.2.2.1, if_neg (by omega), hR.1.2.2.2.2.2.2]
    have hnext : ¬ (c 6 = 1 ∧ c (37 + i) = 1 ∧ c (27 + i) < 9) → ∀ w : Nat, w < i + 1 → ¬ (c 6 = 1 ∧ c (37 + w) = 1 ∧ c (27 + w) < 9) := by
      intro h w hw
      by_cases e : w = i
      · subst e; exact h
      · exact hinv w (by omega)
    by_cases g : c 6 = 0
    · rw [if_pos g]
      left
      exact ⟨(), hnext (by omega), by rw [o_succ (by omega)]⟩
    · rw [if_neg g, x_isWhole hI hR hi2, bind_s]
      by_cases g2 : c (37 + i) = 1
      · simp only [g2, if_true, show ¬ (1 : Int) = 0 by decide, if_false]
        rw [if_pos (by omega), tnc, (hR.2.1 i hi2).2.2]
        by_cases g3 : 9 ≤ c (27 + i)
        · rw [if_pos g3]
          left
          exact ⟨(), hnext (by omega), by rw [o_succ (by omega)]⟩
        · rw [if_neg g3]
          right
          by_cases g6 : c 6 = 1
          · exact wp_some ⟨rfl, Or.inl ⟨rfl, i, hi2, g6, g2, by omega⟩⟩
          · exfalso
            omega
      · simp only [g2, if_false, if_true]
        left
        exact ⟨(), hnext (by omega), by rw [o_succ (by omega)]⟩
  · intro n s hinv
    show Wp (f_X1_isStretching_2 (n + 1) q (((c 1).toNat : Nat) : Int) M) _
    simp only [f_X1_isStretching_2]
    rw [hR.1.2.2.2.1, if_pos (by omega)]
    refine wp_some ⟨rfl, Or.inr ⟨rfl, ?_⟩⟩
    rintro ⟨w, hw, h⟩
    exact hinv w (by omega) h
def strV (c : Nat → Int) (i : Nat) : Nat → Int := fun j => if 27 ≤ j ∧ j < 37 ∧ j - 27 < i then (if c (10 + j) = 1 ∧ c j < 9 then c j + 1 else c j) else c j
theorem strV_ne {c : Nat → Int} {i j : Nat} (h : j < 27 ∨ 37 ≤ j) : strV c i j = c j := by unfold strV; rw [if_neg (by omega)]
theorem strV_succ {c : Nat → Int} {i : Nat} (hi : i < 10) : strV c (i + 1) = cset (strV c i) (27 + i) (if c (37 + i) = 1 ∧ c (27 + i) < 9 then c (27 + i) + 1 else c (27 + i)) := by
  funext j
  unfold cset
  by_cases e : j = 27 + i
  · subst e
    rw [if_pos rfl]
    unfold strV
    have e2 : 10 + (27 + i) = 37 + i := by omega
    rw [if_pos (by omega), e2]
  · rw [if_neg e]
    unfold strV
    by_cases g : 27 ≤ j ∧ j < 37 ∧ j - 27 < i
    · rw [if_pos g, if_pos (by omega)]
    · rw [if_neg g, if_neg (by omega)]
theorem x_stretchAll {c : Nat → Int} {q : Nat} {M : AM} (hI : Ib c) (hsl : ∀ w : Nat, (w : Int) < c 1 → 0 ≤ c (27 + w) ∧ c (27 + w) ≤ 9) (hR : Rh c q M) : Wp (f_X1_stretchAll q M) (fun N => Rh (strV c (c 1).toNat) q N ∧ (∀ a, a ≠ q → a ≠ q + 3 → N a = M a) ∧ (∀ j, j ≠ 19 → N q j = M q j)) := by
  have hc1 := hI.2.1
  unfold f_X1_stretchAll
  refine up_loopP0 (fun n i (s : AM) => f_X1_stretchAll_2 n q (i : Int) s) (fun i s => Rh (strV c i) q s ∧ (∀ a, a ≠ q → a ≠ q + 3 → s a = M a) ∧ (∀ j, j ≠ 19 → s q j = M q j)) _ (c 1).toNat M ?_ ?_ ?_ (by omega)
  · have e : strV c 0 = c := by funext j; unfold strV; rw [if_neg (by omega)]
    exact ⟨by rw [e]; exact hR, fun _ _ _ => rfl, fun _ _ => rfl⟩
  · rintro n i M' hi ⟨h1, h2, h3⟩
    have hi2 : (i : Int) < c 1 := by omega
    have hw := hsl i hi2
    have hIb : Ib (strV c i) := by unfold Ib; rw [strV_ne (by omega), strV_ne (by omega), strV_ne (by omega)]; exact hI
    have hg := (Rh_iff.mp h1).1
    have e1 : strV c i 1 = c 1 := strV_ne (by omega)
    have e37 : strV c i (37 + i) = c (37 + i) := strV_ne (by omega)
    have e27 : strV c i (27 + i) = c (27 + i) := by unfold strV; rw [if_neg (by omega)]
    have hsl := (hg.2.1 i (by rw [e1]; exact hi2)).2.2
    rw [e27] at hsl
    left
    show ∃ s2 : AM, _ ∧ f_X1_stretchAll_2 (n + 1) q (i : Int) M' = _
    simp only [f_X1_stretchAll_2]
    rw [hg.1.2.2.2.1, e1, if_neg (by omega), x_isWhole hIb hg (by rw [e1]; exact hi2), bind_s, e37]
    have hstay : ¬ (c (37 + i) = 1 ∧ c (27 + i) < 9) → Rh (strV c (i + 1)) q M' := by
      intro h
      rw [strV_succ (by omega), if_neg h]
      have e : cset (strV c i) (27 + i) (c (27 + i)) = strV c i := by
        funext j
        unfold cset
        by_cases e : j = 27 + i
        · rw [if_pos e, e, e27]
        · rw [if_neg e]
      rw [e]; exact h1
    by_cases g : c (37 + i) = 1
    · simp only [g, if_true, show ¬ (1 : Int) = 0 by decide, if_false]
      rw [if_pos (by omega), tnc, hsl]
      by_cases g2 : 9 ≤ c (27 + i)
      · rw [if_pos g2, o_succ (by omega)]
        exact ⟨M', ⟨hstay (by omega), h2, h3⟩, rfl⟩
      · rw [if_neg g2, zlet_eq, zlet_eq, o_succ (by omega), o_add_eq (by omega) (by omega)]
        refine ⟨_, ⟨?_, ?_, ?_⟩, rfl⟩
        · rw [strV_succ (by omega), if_pos ⟨g, by omega⟩]
          refine Rh_iff.mpr ⟨?_, Rz_off (am_upd_self _ _ _ _)⟩
          have hA := Rg_slack hIb (i := i) (by rw [e1]; exact hi2) (c (27 + i) + 1) hg
          exact Rg_cong (fun j hj => am_upd_ne (by omega)) (fun j h1 h2 => am_upd_cell (by omega)) hA
        · intro a a1 a2
          rw [am_upd_cell a1, am_upd_cell a2]; exact h2 a a1 a2
        · intro j hj
          rw [am_upd_ne (fun h => hj h.2), am_upd_cell (by omega)]; exact h3 j hj
    · simp only [g, if_false, if_true]
      rw [o_succ (by omega)]
      exact ⟨M', ⟨hstay (fun h => g h.1), h2, h3⟩, rfl⟩
  · rintro n M' ⟨h1, h2, h3⟩
    show Wp (f_X1_stretchAll_2 (n + 1) q (((c 1).toNat : Nat) : Int) M') _
    simp only [f_X1_stretchAll_2]
    rw [h1.1.2.2.2.1, strV_ne (by omega), if_pos (by omega)]
    exact wp_some ⟨h1, h2, h3⟩
/-- for how many DAYS all answer alike -/
def alkF (c : Nat → Int) (i : Nat) (s : Int) : Int := rg i (fun (s : Int) k => if c (65 + k) = 0 ∨ ansF c k = (k : Int) then s else min s ((c (59 + k) + lossF c k - 1) / lossF c k)) s
theorem alk_b {c : Nat → Int} (hI : Ic c) (s : Int) (hs : 1 ≤ s) : ∀ i : Nat, i ≤ (c 2).toNat → 1 ≤ alkF c i s ∧ alkF c i s ≤ s ∧ ∀ k, k < i → ¬ c (65 + k) = 0 → ¬ ansF c k = (k : Int) → (alkF c i s - 1) * lossF c k < c (59 + k) := by
  intro i
  induction i with
  | zero => intro _; exact ⟨hs, Int.le_refl _, fun k h => by omega⟩
  | succ i ih =>
    intro hi
    obtain ⟨h1, h2, h3⟩ := ih (by omega)
    have hk := Ic_k hI (k := i) (by omega)
    have hl := lossF_b c i
    unfold alkF
    rw [rg_succ]
    have e : rg i (fun (s : Int) k => if c (65 + k) = 0 ∨ ansF c k = (k : Int) then s else min s ((c (59 + k) + lossF c k - 1) / lossF c k)) s = alkF c i s := rfl
    rw [e]
    by_cases g : c (65 + i) = 0 ∨ ansF c i = (i : Int)
    · rw [if_pos g]
      refine ⟨h1, h2, fun k hk2 g1 g2 => ?_⟩
      by_cases e : k = i
      · subst e; rcases g with g | g
        · exact absurd g g1
        · exact absurd g g2
      · exact h3 k (by omega) g1 g2
    · rw [if_neg g]
      have hlove : 1 ≤ c (59 + i) := hk.2.2.2.2.1 (by omega)
      generalize hz : (c (59 + i) + lossF c i - 1) / lossF c i = z
      have hz1 : 1 ≤ z ∧ (z - 1) * lossF c i < c (59 + i) := by
        rcases hl with hl | hl <;> rw [hl] at hz ⊢ <;> omega
      refine ⟨by omega, by omega, fun k hk2 g1 g2 => ?_⟩
      have hlk := lossF_b c k
      by_cases e : k = i
      · subst e
        have : min (alkF c k s) z ≤ z := Int.min_le_right _ _
        rcases hlk with hlk | hlk <;> rw [hlk] at hz1 ⊢ <;> omega
      · have := h3 k (by omega) g1 g2
        have h5 : min (alkF c i s) z ≤ alkF c i s := Int.min_le_left _ _
        rcases hlk with hlk | hlk <;> rw [hlk] at this ⊢ <;> omega
theorem x_alike {c : Nat → Int} {d q : Nat} {M : AM} (hI : Ic c) (hR : Rg c q M) (hW : Wh c d M) {most : Int} (hm : 1 ≤ most ∧ most ≤ 20000) :
    Wp (f_X0_alikeDays d q most M) (fun r => r.2 = M ∧ (r.1 = 1 ∧ stP c ∨ r.1 = alkF c (c 2).toNat most ∧ ¬ stP c)) := by
  have hc2 := hI.2.2.1
  unfold f_X0_alikeDays
  refine wp_bind (x_isStretching (Ib_of hI) hI.2.2.2.2.2.2.1 hR) ?_
  rintro ⟨v, N⟩ ⟨hN, hv⟩
  replace hN : N = M := hN
  subst hN
  rcases hv with ⟨hv, hs⟩ | ⟨hv, hs⟩
  · replace hv : v = 1 := hv
    subst hv
    exact wp_neg (show ¬ (1 : Int) = 0 by decide) (wp_some ⟨rfl, Or.inl ⟨rfl, hs⟩⟩)
  · replace hv : v = 0 := hv
    subst hv
    refine wp_pos rfl ?_
    have e : f_X0_alikeDays_14 zB d q most 0 N = some (alkF c (c 2).toNat most, N) := by
      refine up_loop0 (fun n i (s : Int) => f_X0_alikeDays_14 n d q s (i : Int) N) (fun i => alkF c i most) (c 2).toNat _ most rfl ?_ ?_ (by omega)
      · intro n i hi
        have hk := Ic_k hI (k := i) (by omega)
        have hab := alk_b hI most hm.1 i (by omega)
        have hans := ansF_r hI i
        have hw := hW i (by omega)
        have hl := lossF_b c i
        have hsucc : alkF c (i + 1) most = if c (65 + i) = 0 ∨ ansF c i = (i : Int) then alkF c i most else min (alkF c i most) ((c (59 + i) + lossF c i - 1) / lossF c i) := by unfold alkF; rw [rg_succ]
        simp only [f_X0_alikeDays_14]
        rw [hR.1.2.2.2.2.1, if_neg (by omega), x_isHolding (Ib_of hI) hR (by omega), bind_s, hsucc]
        by_cases g : c (65 + i) = 0
        · have g' : ¬ c (65 + i) = 1 := by omega
          simp only [g', if_false, if_true]
          rw [if_pos (Or.inl g), o_succ (by omega)]
        · have g' : c (65 + i) = 1 := by omega
          rw [if_neg g] at hw
          have hlove : 1 ≤ c (59 + i) := hk.2.2.2.2.1 g'
          simp only [g', if_true, show ¬ (1 : Int) = 0 by decide, if_false]
          rw [if_pos (by omega), tnc, hw]
          by_cases g2 : ansF c i = (i : Int)
          · rw [if_pos g2, if_pos (Or.inr g2), o_succ (by omega)]
          · rw [if_neg g2, if_neg (by rintro (h | h); exact absurd h (by decide); exact g2 h), x_lossOf (c := c) (by omega) hw (by omega), bind_s]
            simp only []
            have hlv := (hR.2.2.1 i (by omega)).2.2.1
            rw [if_pos (by omega), zlet_eq, hlv, o_succ (by omega), o_add_eq (by omega) (by omega), o_sub_eq (by omega) (by omega), o_div_eq (by omega) (by omega) (by omega) (by omega), o_min_eq]
      · intro n
        simp only [f_X0_alikeDays_14]
        rw [hR.1.2.2.2.2.1, if_pos (by omega)]
    rw [e]
    exact wp_some ⟨rfl, Or.inr ⟨rfl, hs⟩⟩
