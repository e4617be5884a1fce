/-! public methods: those that tell, rules -/
theorem foldl_cong {α β : Type} {f g : α → β → α} : ∀ (l : List β) (x : α), (∀ a b, b ∈ l → f a b = g a b) → l.foldl f x = l.foldl g x
  | [], _, _ => rfl
  | b :: l, x, h => by
    simp only [List.foldl_cons]
    rw [h x b List.mem_cons_self]
    exact foldl_cong l _ (fun a b hb => h a b (List.mem_cons_of_mem _ hb))
theorem fD_cong {c c2 : Nat → Int} (h0 : c2 0 = c 0) (h1 : c2 1 = c 1) (hw : ∀ w : Nat, (w : Int) < c 1 → c2 (7 + w) = c (7 + w) ∧ c2 (17 + w) = c (17 + w) ∧ c2 (27 + w) = c (27 + w) ∧ c2 (37 + w) = c (37 + w)) : fD c2 = fD c := by
  unfold fD mx1
  rw [h0, h1]
  congr 1
  refine foldl_cong _ _ (fun D w hm => ?_)
  have hm := List.mem_range.mp hm
  obtain ⟨a, b, d, e⟩ := hw w (by omega)
  unfold mxwire
  rw [a, b, d, e]
theorem RR_thrown {M : AM} (b : Int) (hR : RR M) : RR (am_upd M 0 1 b) := by
  refine RR_same (fun q hq => ?_) ?_ ?_ ?_ ?_ ?_ ?_ hR
  · exact am_upd_cell (by rintro rfl; cases hq)
  · exact Rh_cong (M := M) (fun i hi => am_upd_cell (by omega)) hR.2.2.2.2.2.2.1.2.2.1
  · exact am_upd_cell (by omega)
  · simp [am_upd_eq]
  · simp [am_upd_eq]
  · simp [am_upd_eq]
  · simp [am_upd_eq, hR.1]
theorem s_top : Alike f_X10_top f_X11_top := fun M hR => ⟨M 0 2, M, am_upd M 0 1 0, by rw [← hR.2.1.1]; rfl, by simp [f_X11_top, zlet_eq, am_upd_eq], RR_thrown 0 hR⟩
theorem s_bottom : Alike f_X10_bottom f_X11_bottom := fun M hR => ⟨M 0 3, M, am_upd M 0 1 0, by rw [← hR.2.1.2]; rfl, by simp [f_X11_bottom, zlet_eq, am_upd_eq], RR_thrown 0 hR⟩
theorem s_fault (a : Int) : Alike (f_X10_fault a) (f_X11_fault a) := by
  intro M hR
  have e4 := hR.2.2.1.1
  have e5 := hR.2.2.1.2
  by_cases h0 : a = 0
  · exact ⟨M 0 10, M, am_upd M 0 1 0, by simp [f_X10_fault, h0, e4], by simp [f_X11_fault, zlet_eq, am_upd_eq, h0], RR_thrown 0 hR⟩
  · by_cases h1 : a = 1
    · exact ⟨M 0 11, M, am_upd M 0 1 0, by simp [f_X10_fault, h1, e5], by simp [f_X11_fault, zlet_eq, am_upd_eq, h1], RR_thrown 0 hR⟩
    · exact ⟨-1, M, am_upd M 0 1 0, by simp [f_X10_fault, h0, h1], by simp [f_X11_fault, zlet_eq, h0, h1], RR_thrown 0 hR⟩
/-- two updates of different places change places -/
theorem am_upd_comm {M : AM} {q j a b : Nat} {x y : Int} (h : ¬ (q = a ∧ j = b)) : am_upd (am_upd M q j x) a b y = am_upd (am_upd M a b y) q j x := by
  funext u v
  simp only [am_upd_eq]
  by_cases h1 : u = a ∧ v = b
  · by_cases h2 : u = q ∧ v = j
    · exact absurd ⟨h2.1.symm.trans h1.1, h2.2.symm.trans h1.2⟩ h
    · simp [h1, h2]
      intro e1 e2
      exact absurd ⟨h1.1.trans e1, h1.2.trans e2⟩ h2
  · simp [h1]
