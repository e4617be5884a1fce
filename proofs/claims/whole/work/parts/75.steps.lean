/-! LIVE: damp, dry, mend -/
theorem x_damp {c : Nat → Int} {q : Nat} {M : AM} (hI : Ic c) (hR : Rh c q M) {v : Int} (hv : v = 0 ∨ v = 1) : f_X3_turnDamp q v M = some (if c 6 = v then 0 else 1, am_upd M q 6 v) ∧ Rh (cset c 6 v) q (am_upd M q 6 v) := by
  have hg := (Rh_iff.mp hR).1
  have e6 : M q 6 = c 6 := hg.1.2.2.2.2.2.2
  refine ⟨?_, Rh_keep hI (by omega) (Or.inr ⟨rfl, by decide⟩) hR (Rg_damp (Ib_of hI) v hg)⟩
  unfold f_X3_turnDamp
  rw [e6, if_pos hv, if_pos hv, zlet_eq, zlet_eq]
  by_cases g : c 6 = v
  · rw [if_pos g, if_pos g]
  · rw [if_neg g, if_neg g]
theorem m_damp {M : AM} {v : Int} : f_X11_does_85 6 v M = if M 5 6 = v then some (0, M) else some (1, am_upd M 5 6 v) := by
  unfold f_X11_does_85
  have e := m_becomes (M := M) (j := 6) (by decide) v
  rw [show ((6 : Nat) : Int) = 6 from rfl] at e
  rw [e]
  by_cases g : M 5 6 = v
  · rw [if_pos g, bind_s]; rfl
  · rw [if_neg g, bind_s]; rfl
theorem cset_same {c : Nat → Int} {j : Nat} {v : Int} (h : c j = v) : cset c j v = c := by
  funext i
  by_cases e : i = j
  · subst e; rw [cset_eq, h]
  · exact cset_ne e
def mdB (c : Nat → Int) (w : Nat) : Bool := decide (c (37 + w) = 0 ∨ 0 < c (27 + w))
def mdC (c : Nat → Int) (w : Nat) : Nat → Int := if mdB c w then cset (cset c (37 + w) 1) (27 + w) 0 else c
theorem x_mendOne {c : Nat → Int} {q : Nat} {M : AM} (hI : Ic c) (hR : Rh c q M) {w : Nat} (hw : (w : Int) < c 1) :
    ∃ N, f_X3_mendOne q (w : Int) M = some (if mdB c w then 1 else 0, N) ∧ Rh (mdC c w) q N ∧ ∀ x, x ≠ q → x ≠ q + 3 → N x = M x := by
  have hg := (Rh_iff.mp hR).1
  unfold f_X3_mendOne mdC mdB
  rw [xwire_t hg ⟨by omega, hw⟩, bind_s]
  simp only [i10, if_false]
  rw [x_isMendable hI hg hw, bind_s]
  by_cases g : c (37 + w) = 0 ∨ 0 < c (27 + w)
  · obtain ⟨N, e, hN, hE⟩ := x_mendWire hI hR hw
    simp only [if_pos g, i10, not_false_eq_true, if_true, decide_eq_true g]
    rw [e, bind_s]
    exact ⟨N, rfl, hN, hE⟩
  · simp only [if_neg g, not_true_eq_false, if_false, decide_eq_false g, Bool.false_eq_true]
    exact ⟨M, rfl, hR, fun _ _ _ => rfl⟩
theorem m_isMended {M : AM} (hI : Ic (M 5)) {w : Nat} (hw : w < 10) : ∃ N, f_X11_isMended (w : Int) M = some (if mdB (M 5) w then 1 else 0, N) ∧ N 5 = mdC (M 5) w ∧ ∀ x, x ≠ 5 → N x = M x := by
  unfold f_X11_isMended mdC mdB
  rw [m_canMend hI hw, bind_s]
  by_cases g : M 5 (37 + w) = 0 ∨ 0 < M 5 (27 + w)
  · simp only [if_pos g, i10, not_false_eq_true, if_true, decide_eq_true g]
    rw [m_repairs hw, bind_s]
    exact ⟨_, rfl, am5_2 _ _ _ _ _, fun x hx => by dsimp only; rw [am_upd_cell hx, am_upd_cell hx]⟩
  · simp only [if_neg g, not_true_eq_false, if_false, decide_eq_false g, Bool.false_eq_true]
    exact ⟨M, rfl, rfl, fun _ _ => rfl⟩
