/-! LIVE: the plain STEP keeps the invariant -/
theorem plC_keep {c : Nat → Int} {z k a : Int} (hI : Ic c) (h9 : c 5 ≤ 9999) (hz : 0 ≤ z ∧ z < 65536) (hk : 0 ≤ k ∧ k ≤ 5) (h0 : k = 0 → 0 ≤ a ∧ a ≤ 99) (h34 : k = 3 ∨ k = 4 → 0 ≤ a ∧ a < c 1) :
    Ic (plC c z k a) ∧ plC c z k a 5 ≤ 9999 ∧ ∀ j, j ≠ 5 → j < 6 ∨ 83 ≤ j → plC c z k a j = c j := by
  have hc1 := hI.2.1
  have hc5 := hI.2.2.2.2.2.1
  rcases (by omega : k = 0 ∨ k = 1 ∨ k = 2 ∨ k = 3 ∨ k = 4 ∨ k = 5) with rfl | rfl | rfl | rfl | rfl | rfl
  · have ha := h0 rfl
    by_cases g : c 5 + a ≤ 9999
    · have e : plC c z 0 a = dayN c a.toNat := by unfold plC; rw [if_pos rfl, if_pos g]
      rw [e]
      exact ⟨Ic_dayN hI _ (by omega), by rw [dayN_5]; omega, fun j h5 h => dayN_lo h5 (by omega) _⟩
    · have e : plC c z 0 a = c := by unfold plC; rw [if_pos rfl, if_neg g]
      rw [e]
      exact ⟨hI, h9, fun _ _ _ => rfl⟩
  · have e : plC c z 1 a = cset c 6 1 := rfl
    rw [e]
    exact ⟨Ic_cell hI (by omega) (by omega) (fun _ => by omega) (fun _ => by omega) (fun _ => by omega) (fun _ _ => by omega) (fun _ _ => by omega) (fun _ _ => by omega) (fun _ _ => by omega) (by omega), by rw [cset_ne (by omega)]; exact h9, fun j _ h => cset_ne (by omega)⟩
  · have e : plC c z 2 a = cset c 6 0 := rfl
    rw [e]
    exact ⟨Ic_cell hI (by omega) (by omega) (fun _ => by omega) (fun _ => by omega) (fun _ => by omega) (fun _ _ => by omega) (fun _ _ => by omega) (fun _ _ => by omega) (fun _ _ => by omega) (by omega), by rw [cset_ne (by omega)]; exact h9, fun j _ h => cset_ne (by omega)⟩
  · have ha := h34 (Or.inl rfl)
    have e : plC c z 3 a = mdC c a.toNat := rfl
    rw [e]
    exact ⟨Ic_mdC hI (by omega), by rw [mdC_hi (by omega) (by omega)]; exact h9, fun j _ h => mdC_hi (by omega) (by omega)⟩
  · have ha := h34 (Or.inr rfl)
    by_cases g : c (37 + a.toNat) = 1
    · have e : plC c z 4 a = cset c (37 + a.toNat) 0 := if_pos g
      rw [e]
      exact ⟨Ic_whole hI (by omega) (Or.inl rfl), by rw [cset_ne (by omega)]; exact h9, fun j _ h => cset_ne (by omega)⟩
    · have e : plC c z 4 a = c := if_neg g
      rw [e]
      exact ⟨hI, h9, fun _ _ _ => rfl⟩
  · have e : plC c z 5 a = hitC c z := rfl
    rw [e]
    exact ⟨Ic_hit hI hz, by rw [hitC_hi hI hz (by omega)]; exact h9, fun j _ h => hitC_hi hI hz (by omega)⟩
