/-! calls that change a cell -/
theorem am5 (M : AM) (j : Nat) (x : Int) : am_upd M 5 j x 5 = cset (M 5) j x := by
  funext b
  rw [am_upd_eq]
  unfold cset
  simp
theorem am5_2 (M : AM) (j l : Nat) (x y : Int) : am_upd (am_upd M 5 j x) 5 l y 5 = cset (cset (M 5) j x) l y := by rw [am5, am5]
theorem am5_s2 {M : AM} (j l : Nat) (x y : Int) {s : Int} (h : M 0 0 = s) : am_upd (am_upd M 5 j x) 5 l y 0 0 = s := by rw [am_upd_cell (by decide), am_upd_cell (by decide)]; exact h
theorem Ic_cell {c : Nat → Int} (hI : Ic c) {j : Nat} {v : Int} (hj : 2 < j) (hj5 : j ≠ 5)
    (h3 : j = 3 → 1 ≤ v ∧ v ≤ 99) (h4 : j = 4 → 0 ≤ v ∧ v ≤ 16) (h6 : j = 6 → v = 0 ∨ v = 1) (hr : 7 ≤ j → j < 27 → 0 ≤ v ∧ v < c 0) (hs : 27 ≤ j → j < 37 → 0 ≤ v ∧ v ≤ 9) (hw : 37 ≤ j → j < 47 → v = 0 ∨ v = 1) (hk : 47 ≤ j → j < 59 → 0 ≤ v ∧ v < c 0) (h59 : j < 59 ∨ 83 ≤ j) : Ic (cset c j v) := by
  obtain ⟨i0, i1, i2, i3, i4, i5, i6, i7, i8⟩ := hI
  have key : ∀ b, cset c j v b = if b = j then v else c b := fun b => rfl
  unfold Ic
  rw [cset_ne (j := j) (b := 0) (by omega), cset_ne (j := j) (b := 1) (by omega), cset_ne (j := j) (b := 2) (by omega), cset_ne (j := j) (b := 5) (by omega)]
  refine ⟨i0, i1, i2, ?_, ?_, i5, ?_, fun w hw2 => ?_, fun k hk2 => ?_⟩
  · rw [key]; split
    · exact h3 (by omega)
    · exact i3
  · rw [key]; split
    · exact h4 (by omega)
    · exact i4
  · rw [key]; split
    · exact h6 (by omega)
    · exact i6
  · have := i7 w hw2
    refine ⟨?_, ?_, ?_, ?_⟩
    · rw [key]; split
      · exact hr (by omega) (by omega)
      · exact this.1
    · rw [key]; split
      · exact hr (by omega) (by omega)
      · exact this.2.1
    · rw [key]; split
      · exact hs (by omega) (by omega)
      · exact this.2.2.1
    · rw [key]; split
      · exact hw (by omega) (by omega)
      · exact this.2.2.2
  · have := i8 k hk2
    rw [cset_ne (j := j) (b := 59 + k) (by omega), cset_ne (j := j) (b := 65 + k) (by omega), cset_ne (j := j) (b := 71 + k) (by omega), cset_ne (j := j) (b := 77 + k) (by omega)]
    refine ⟨?_, ?_, this.2.2⟩
    · rw [key]; split
      · exact hk (by omega) (by omega)
      · exact this.1
    · rw [key]; split
      · exact hk (by omega) (by omega)
      · exact this.2.1
theorem Ic_slack {c : Nat → Int} (hI : Ic c) {i : Nat} (hi : i < 10) {v : Int} (hv : 0 ≤ v ∧ v ≤ 9) : Ic (cset c (27 + i) v) :=
  Ic_cell hI (by omega) (by omega) (fun _ => by omega) (fun _ => by omega) (fun _ => by omega) (fun _ _ => by omega) (fun _ _ => hv) (fun _ _ => by omega) (fun _ _ => by omega) (by omega)
theorem Ic_whole {c : Nat → Int} (hI : Ic c) {i : Nat} (hi : i < 10) {v : Int} (hv : v = 0 ∨ v = 1) : Ic (cset c (37 + i) v) :=
  Ic_cell hI (by omega) (by omega) (fun _ => by omega) (fun _ => by omega) (fun _ => by omega) (fun _ _ => by omega) (fun _ _ => by omega) (fun _ _ => hv) (fun _ _ => by omega) (by omega)
theorem Ic_who {c : Nat → Int} (hI : Ic c) {j : Nat} (hj : 47 ≤ j ∧ j < 59) {v : Int} (hv : 0 ≤ v ∧ v < c 0) : Ic (cset c j v) :=
  Ic_cell hI (by omega) (by omega) (fun _ => by omega) (fun _ => by omega) (fun _ => by omega) (fun _ _ => by omega) (fun _ _ => by omega) (fun _ _ => by omega) (fun _ _ => hv) (by omega)
theorem Ic_love {c : Nat → Int} (hI : Ic c) {i : Nat} (hi : i < 6) {v h : Int} (hv : 0 ≤ v ∧ v ≤ 9) (hh : h = 0 ∨ h = 1) (hl : h = 1 → 1 ≤ v) : Ic (cset (cset c (59 + i) v) (65 + i) h) := by
  obtain ⟨i0, i1, i2, i3, i4, i5, i6, i7, i8⟩ := hI
  have lo : ∀ b, b < 59 ∨ 71 ≤ b → cset (cset c (59 + i) v) (65 + i) h b = c b := fun b hb => by rw [cset_ne (by omega), cset_ne (by omega)]
  unfold Ic
  rw [lo 0 (by omega), lo 1 (by omega), lo 2 (by omega), lo 3 (by omega), lo 4 (by omega), lo 5 (by omega), lo 6 (by omega)]
  refine ⟨i0, i1, i2, i3, i4, i5, i6, fun w hw2 => ?_, fun k hk2 => ?_⟩
  · rw [lo _ (by omega), lo _ (by omega), lo _ (by omega), lo _ (by omega)]; exact i7 w hw2
  · have := i8 k hk2
    rw [lo (47 + k) (by omega), lo (53 + k) (by omega), lo (71 + k) (by omega), lo (77 + k) (by omega)]
    have e1 : cset (cset c (59 + i) v) (65 + i) h (59 + k) = if k = i then v else c (59 + k) := by
      rw [cset_ne (by omega)]
      unfold cset
      by_cases e : k = i
      · rw [if_pos (by omega), if_pos e]
      · rw [if_neg (by omega), if_neg e]
    have e2 : cset (cset c (59 + i) v) (65 + i) h (65 + k) = if k = i then h else c (65 + k) := by
      unfold cset
      by_cases e : k = i
      · rw [if_pos (by omega), if_pos e]
      · rw [if_neg (by omega), if_neg (by omega), if_neg e]
    rw [e1, e2]
    by_cases e : k = i
    · rw [if_pos e, if_pos e]
      exact ⟨this.1, this.2.1, hv, hh, hl, this.2.2.2.2.2⟩
    · rw [if_neg e, if_neg e]
      exact this
/-- the rest of the relation for a cell -/
theorem Qx_upd {M N : AM} {q : Nat} (j : Nat) (x : Int) (hq : xcell q) (h15 : q ≠ 15) (h : Qx M N) : Qx M (am_upd N q j x) :=
  ⟨fun a ha => by rw [am_upd_cell (by rintro rfl; exact ha hq)]; exact h.1 a ha, fun j hj => by rw [am_upd_cell (fun e => h15 e.symm)]; exact h.2 j hj⟩
theorem keep_cset {c : Nat → Int} {j : Nat} (v : Int) (h : 2 < j ∧ j < 83 ∧ j ≠ 5) (h9 : c 5 ≤ 9999) : cset c j v 5 ≤ 9999 ∧ (cset c j v 0 = c 0 ∧ cset c j v 1 = c 1 ∧ cset c j v 2 = c 2) ∧ ∀ k, 83 ≤ k → cset c j v k = c k :=
  ⟨by rw [cset_ne (by omega)]; exact h9, ⟨cset_ne (by omega), cset_ne (by omega), cset_ne (by omega)⟩, fun k hk => cset_ne (by omega)⟩
theorem keep_cset2 {c : Nat → Int} {j l : Nat} (v x : Int) (h : 2 < j ∧ j < 83 ∧ j ≠ 5) (h2 : 2 < l ∧ l < 83 ∧ l ≠ 5) (h9 : c 5 ≤ 9999) : cset (cset c j v) l x 5 ≤ 9999 ∧ (cset (cset c j v) l x 0 = c 0 ∧ cset (cset c j v) l x 1 = c 1 ∧ cset (cset c j v) l x 2 = c 2) ∧ ∀ k, 83 ≤ k → cset (cset c j v) l x k = c k :=
  ⟨by rw [cset_ne (by omega), cset_ne (by omega)]; exact h9, ⟨by rw [cset_ne (by omega), cset_ne (by omega)], by rw [cset_ne (by omega), cset_ne (by omega)], by rw [cset_ne (by omega), cset_ne (by omega)]⟩, fun k hk => by rw [cset_ne (by omega), cset_ne (by omega)]⟩
theorem keep_c {c : Nat → Int} (hI : Ic c) (h9 : c 5 ≤ 9999) : Ic c ∧ c 5 ≤ 9999 ∧ (True ∧ True ∧ True) ∧ ∀ k : Nat, 83 ≤ k → True := ⟨hI, h9, ⟨trivial, trivial, trivial⟩, fun _ _ => trivial⟩
/-- no wire has changed: the lengths stand -/
theorem Rh_keep {c : Nat → Int} {q j z i : Nat} {M : AM} {v x : Int} (hI : Ic c) (hj : 1 < j ∧ (j < 7 ∨ 47 ≤ j)) (hz : z ≠ q ∧ z ≠ q + 10 ∨ z = q ∧ i ≠ 19) (hR : Rh c q M) (hg : Rg (cset c j v) q (am_upd M z i x)) : Rh (cset c j v) q (am_upd M z i x) := by
  refine Rh_iff.mpr ⟨hg, Rz_cong (cset_ne (by omega)) (fD_cset hI hj.1 hj.2) ?_ ?_ (Rh_iff.mp hR).2⟩
  · rcases hz with ⟨h1, _⟩ | ⟨h1, h2⟩
    · rw [am_upd_cell (fun e => h1 e.symm)]
    · rw [am_upd_ne (fun e => h2 e.2.symm)]
  · rcases hz with ⟨_, h1⟩ | ⟨h1, h2⟩
    · rw [am_upd_cell (fun e => h1 e.symm)]
    · rw [am_upd_cell (by omega)]
theorem a_rule (a1 a2 : Int) : Alike (f_X10_rule a1 a2) (f_X11_rule a1 a2) := by
  refine alike_h (fun c => if a1 = 3 ∧ 1 ≤ a2 ∧ a2 ≤ 99 ∨ a1 = 4 ∧ 0 ≤ a2 ∧ a2 ≤ 16 then 1 else 0) (fun c => if a1 = 3 ∧ 1 ≤ a2 ∧ a2 ≤ 99 ∨ a1 = 4 ∧ 0 ≤ a2 ∧ a2 ≤ 16 then 0 else 5) (fun c => if a1 = 3 ∧ 1 ≤ a2 ∧ a2 ≤ 99 ∨ a1 = 4 ∧ 0 ≤ a2 ∧ a2 ≤ 16 then cset c a1.toNat a2 else c) ?_ ?_ ?_
  · intro c M hI h9 hR
    have hg := (Rh_iff.mp hR).1
    rw [x_rule]
    by_cases g1 : a1 = 3 ∧ 1 ≤ a2 ∧ a2 ≤ 99
    · simp only [if_pos g1, if_pos (Or.inl g1 : a1 = 3 ∧ 1 ≤ a2 ∧ a2 ≤ 99 ∨ a1 = 4 ∧ 0 ≤ a2 ∧ a2 ≤ 16)]
      obtain ⟨rfl, _⟩ := g1
      exact x_end (Qx_upd 0 a2 (by unfold xcell; omega) (by decide) (Qx_refl M)) (Rh_keep hI (j := 3) (by omega) (by omega) hR (Rg_power (Ib_of hI) a2 hg))
    · by_cases g2 : a1 = 4 ∧ 0 ≤ a2 ∧ a2 ≤ 16
      · simp only [if_neg g1, if_pos g2, if_pos (Or.inr g2 : a1 = 3 ∧ 1 ≤ a2 ∧ a2 ≤ 99 ∨ a1 = 4 ∧ 0 ≤ a2 ∧ a2 ≤ 16)]
        obtain ⟨rfl, _⟩ := g2
        exact x_end (Qx_upd 1 a2 (by unfold xcell; omega) (by decide) (Qx_refl M)) (Rh_keep hI (j := 4) (by omega) (by omega) hR (Rg_odds (Ib_of hI) a2 hg))
      · have g3 : ¬ (a1 = 3 ∧ 1 ≤ a2 ∧ a2 ≤ 99 ∨ a1 = 4 ∧ 0 ≤ a2 ∧ a2 ≤ 16) := fun h => h.elim g1 g2
        simp only [if_neg g1, if_neg g2, if_neg g3]
        exact x_end (Qx_refl M) hR
  · intro P hI h9
    obtain ⟨M2, hM2, e5, q2, s2, hc, hf⟩ := MS_ok P
    rw [m_rule, hM2]
    by_cases g : a1 = 3 ∧ 1 ≤ a2 ∧ a2 ≤ 99 ∨ a1 = 4 ∧ 0 ≤ a2 ∧ a2 ≤ 16
    · simp only [if_pos g]
      exact m_fin (Qm_cell _ (by unfold mcell; omega) (by decide) q2) (by rw [am5, e5]) (by rw [am_upd_cell (by decide)]; exact s2)
    · simp only [if_neg g]
      exact m_end q2 e5
  · intro c hI h9
    by_cases g : a1 = 3 ∧ 1 ≤ a2 ∧ a2 ≤ 99 ∨ a1 = 4 ∧ 0 ≤ a2 ∧ a2 ≤ 16
    · simp only [if_pos g]
      have hj : 2 < a1.toNat ∧ a1.toNat < 83 ∧ a1.toNat ≠ 5 := by omega
      exact ⟨Ic_cell hI (by omega) (by omega) (fun _ => by omega) (fun _ => by omega) (fun _ => by omega) (fun _ _ => by omega) (fun _ _ => by omega) (fun _ _ => by omega) (fun _ _ => by omega) (by omega), keep_cset _ hj h9⟩
    · simp only [if_neg g]
      exact keep_c hI h9
theorem a_damp (a1 : Int) (ha : a1 = 0 ∨ a1 = 1) : Alike (f_X10_damp a1) (f_X11_damp a1) := by
  refine alike_h (fun c => if c 6 = a1 then 0 else 1) (fun c => if c 6 = a1 then 9 else 0) (fun c => if c 6 = a1 then c else cset c 6 a1) ?_ ?_ ?_
  · intro c M hI h9 hR
    have hg := (Rh_iff.mp hR).1
    have e6 : M 23 6 = c 6 := hg.1.2.2.2.2.2.2
    unfold f_X10_damp
    by_cases g : c 6 = a1
    · simp only [if_pos g]
      rw [if_neg (by omega), x_refuse, bind_s, if_pos (Or.inl rfl)]
      exact x_end (Qx_refl M) hR
    · simp only [if_neg g]
      rw [if_pos (by omega), if_pos ha, zlet_eq, x_agree, bind_s, if_pos (Or.inr rfl)]
      exact x_end (Qx_upd 6 a1 (by unfold xcell; omega) (by decide) (Qx_refl M)) (Rh_keep hI (j := 6) (by omega) (by omega) hR (Rg_damp (Ib_of hI) a1 hg))
  · intro P hI h9
    obtain ⟨M2, hM2, e5, q2, s2, hc, hf⟩ := MS_ok P
    rw [← e5] at hI
    have key : f_X11_damp_22 6 a1 M2 = if M2 5 6 = a1 then some (0, am_upd M2 0 0 9) else some (1, am_upd M2 5 6 a1) := by
      unfold f_X11_damp_22 f_X11_becomes
      rw [if_pos (by omega), tn6]
      by_cases g : M2 5 6 = a1
      · rw [if_neg (fun h => h g), if_pos g, bind_s]
        simp only [i00, not_true_eq_false, if_false, m_no, bind_s, if_true]
      · rw [if_pos g, if_neg g, zlet_eq, bind_s]
        simp only [i10, not_false_eq_true, if_true]
    unfold f_X11_damp
    rw [zlet_eq, zlet_eq, hM2, ← e5]
    have e : (if a1 = 0 then f_X11_damp_22 6 0 M2 else f_X11_damp_22 6 1 M2) = f_X11_damp_22 6 a1 M2 := by
      rcases ha with rfl | rfl <;> rfl
    rw [e, key]
    by_cases g : M2 5 6 = a1
    · simp only [if_pos g]
      exact m_end q2 rfl
    · simp only [if_neg g]
      exact m_fin (Qm_cell _ (by unfold mcell; omega) (by decide) q2) (am5 _ _ _) (by rw [am_upd_cell (by decide)]; exact s2)
  · intro c hI h9
    by_cases g : c 6 = a1
    · simp only [if_pos g]
      exact keep_c hI h9
    · simp only [if_neg g]
      exact ⟨Ic_cell hI (by omega) (by omega) (fun _ => by omega) (fun _ => by omega) (fun _ => ha) (fun _ _ => by omega) (fun _ _ => by omega) (fun _ _ => by omega) (fun _ _ => by omega) (by omega), keep_cset _ (by omega) h9⟩
/-- a wire is cut, in the class -/
theorem x_cutWire {c : Nat → Int} {q : Nat} {M : AM} (hI : Ic c) (hR : Rh c q M) {w : Nat} (hw : (w : Int) < c 1) : ∃ N, f_X1_cutWire q (w : Int) M = some N ∧ Rh (cset c (37 + w) 0) q N ∧ (∀ a, a ≠ q → N a = M a) := by
  have hg := (Rh_iff.mp hR).1
  unfold f_X1_cutWire
  rw [zlet_eq, zlet_eq]
  refine ⟨_, rfl, Rh_iff.mpr ⟨?_, Rz_off (am_upd_self _ _ _ _)⟩, fun a ha => by rw [am_upd_cell ha, am_upd_cell ha]⟩
  exact Rg_cong (fun j hj => am_upd_ne (by omega)) (fun j h1 h2 => am_upd_cell (by omega)) (Rg_wholeOff (Ib_of hI) hw hg)
theorem x_setSlack {c : Nat → Int} {q : Nat} {M : AM} (hI : Ib c) (hR : Rg c q M) {w : Nat} (hw : (w : Int) < c 1) (v : Int) : ∃ N, f_X1_setSlack q (w : Int) v M = some N ∧ Rh (cset c (27 + w) v) q N ∧ (∀ a, a ≠ q → a ≠ q + 3 → N a = M a) := by
  have h1 := hI.2.1
  unfold f_X1_setSlack
  rw [xwire_t hR ⟨by omega, hw⟩, bind_s]
  dsimp only
  rw [if_neg (by decide), if_pos (by omega), zlet_eq, zlet_eq, tnc]
  refine ⟨_, rfl, Rh_iff.mpr ⟨?_, Rz_off (am_upd_self _ _ _ _)⟩, fun a ha hb => by rw [am_upd_cell ha, am_upd_cell hb]⟩
  exact Rg_cong (fun j hj => am_upd_ne (by omega)) (fun j h1 h2 => am_upd_cell (by omega)) (Rg_slack hI hw v hR)
theorem x_mendWire {c : Nat → Int} {q : Nat} {M : AM} (hI : Ic c) (hR : Rh c q M) {w : Nat} (hw : (w : Int) < c 1) : ∃ N, f_X1_mendWire q (w : Int) M = some N ∧ Rh (cset (cset c (37 + w) 1) (27 + w) 0) q N ∧ (∀ a, a ≠ q → a ≠ q + 3 → N a = M a) := by
  have hg := (Rh_iff.mp hR).1
  have hA := Rg_wholeOn (Ib_of hI) hw hg
  unfold f_X1_mendWire
  rw [zlet_eq]
  obtain ⟨N, e, h1, h2⟩ := x_setSlack (Ib_cset (Ib_of hI) (j := 37 + w) (by omega) 1) hA (w := w) (by rw [cset_ne (by omega)]; exact hw) 0
  rw [e, bind_s]
  exact ⟨N, rfl, h1, fun a ha hb => by rw [h2 a ha hb, am_upd_cell ha]⟩
theorem m_becomes {M : AM} {j : Nat} (hj : j < 1775) (v : Int) : f_X11_becomes (j : Int) v M = if M 5 j = v then some (0, M) else some (1, am_upd M 5 j v) := by
  unfold f_X11_becomes
  rw [if_pos (by omega), tnc]
  by_cases g : M 5 j = v
  · rw [if_neg (fun h => h g), if_pos g]
  · rw [if_pos g, if_neg g, zlet_eq]
theorem a_cut (a1 : Int) : Alike (f_X10_cut a1) (f_X11_cut_ a1) := by
  refine alike_h (fun c => if (0 ≤ a1 ∧ a1 < c 1) ∧ c (37 + a1.toNat) = 1 then c (27 + a1.toNat) else -1) (fun c => if 0 ≤ a1 ∧ a1 < c 1 then (if c (37 + a1.toNat) = 1 then 0 else 9) else 2) (fun c => if (0 ≤ a1 ∧ a1 < c 1) ∧ c (37 + a1.toNat) = 1 then cset c (37 + a1.toNat) 0 else c) ?_ ?_ ?_
  · intro c M hI h9 hR
    have h1 := hI.2.1
    have hg := (Rh_iff.mp hR).1
    unfold f_X10_cut
    by_cases g1 : 0 ≤ a1 ∧ a1 < c 1
    · obtain ⟨w, rfl⟩ : ∃ w : Nat, a1 = (w : Int) := ⟨a1.toNat, by omega⟩
      rw [xwire_t hg g1, bind_s]
      simp only [if_pos g1, i10, not_false_eq_true, if_true, tnc]
      rw [x_isWhole (Ib_of hI) hg g1.2, bind_s]
      by_cases g2 : c (37 + w) = 1
      · have g3 : (0 ≤ (w : Int) ∧ (w : Int) < c 1) ∧ c (37 + w) = 1 := ⟨g1, g2⟩
        simp only [if_pos g2, if_pos g3, i10, not_false_eq_true, if_true]
        obtain ⟨N, e, hN, hE⟩ := x_cutWire hI hR g1.2
        have e26 : N 26 w = c (27 + w) := by rw [hE 26 (by decide)]; exact (hg.2.1 w g1.2).2.2
        rw [e, bind_s]
        rw [if_pos (by omega), x_answer, bind_s, e26]
        refine x_end ⟨fun a ha => hE a (by rintro rfl; exact ha (by unfold xcell; omega)), fun j hj => by rw [hE 15 (by decide)]⟩ hN
      · have g3 : ¬ ((0 ≤ (w : Int) ∧ (w : Int) < c 1) ∧ c (37 + w) = 1) := fun h => g2 h.2
        simp only [if_neg g2, if_neg g3, i00, not_true_eq_false, if_false, x_fail, bind_s]
        exact x_end (Qx_refl M) hR
    · have g3 : ¬ ((0 ≤ a1 ∧ a1 < c 1) ∧ c (37 + a1.toNat) = 1) := fun h => g1 h.1
      rw [xwire_f hg g1, bind_s]
      simp only [if_neg g1, if_neg g3, i00, not_true_eq_false, if_false, x_fail, bind_s]
      exact x_end (Qx_refl M) hR
  · intro P hI h9
    obtain ⟨M2, hM2, e5, q2, s2, hc, hf⟩ := MS_ok P
    rw [← e5] at hI
    have h1 := hI.2.1
    unfold f_X11_cut_
    rw [zlet_eq, zlet_eq, hM2, ← e5]
    by_cases g1 : 0 ≤ a1 ∧ a1 < M2 5 1
    · obtain ⟨w, rfl⟩ : ∃ w : Nat, a1 = (w : Int) := ⟨a1.toNat, by omega⟩
      have hw := Ic_w hI g1.2
      have ej : o_add 37 (w : Int) = ((37 + w : Nat) : Int) := by rw [o_add_eq (by omega) (by omega)]; omega
      rw [mwire_t hI g1, bind_s]
      simp only [if_pos g1, i10, not_false_eq_true, if_true, tnc]
      rw [ej, m_becomes (by omega)]
      by_cases g2 : M2 5 (37 + w) = 1
      · have g3 : (0 ≤ (w : Int) ∧ (w : Int) < M2 5 1) ∧ M2 5 (37 + w) = 1 := ⟨g1, g2⟩
        rw [if_neg (by omega), bind_s]
        simp only [if_pos g2, if_pos g3, i10, if_false]
        simp (disch := omega) only [o_add_eq (x := 27), tp27]
        rw [if_pos (by omega), am5, cset_ne (by omega)]
        exact m_fin (Qm_cell _ (by unfold mcell; omega) (by decide) q2) (am5 _ _ _) (by rw [am_upd_cell (by decide)]; exact s2)
      · have g3 : ¬ ((0 ≤ (w : Int) ∧ (w : Int) < M2 5 1) ∧ M2 5 (37 + w) = 1) := fun h => g2 h.2
        rw [if_pos (by omega), bind_s]
        simp only [if_neg g2, if_neg g3, i00, if_true, m_refuse, bind_s]
        exact m_end q2 rfl
    · have g3 : ¬ ((0 ≤ a1 ∧ a1 < M2 5 1) ∧ M2 5 (37 + a1.toNat) = 1) := fun h => g1 h.1
      rw [mwire_f hI g1, bind_s]
      simp only [if_neg g1, if_neg g3, i00, not_true_eq_false, if_false, m_refuse, bind_s]
      exact m_end q2 rfl
  · intro c hI h9
    have h1 := hI.2.1
    by_cases g3 : (0 ≤ a1 ∧ a1 < c 1) ∧ c (37 + a1.toNat) = 1
    · simp only [if_pos g3]
      exact ⟨Ic_whole hI (by omega) (Or.inl rfl), keep_cset _ (by omega) h9⟩
    · simp only [if_neg g3]
      exact keep_c hI h9
theorem m_canMend {M : AM} (hI : Ic (M 5)) {w : Nat} (hw : w < 10) : f_X11_canMend (w : Int) M = some (if M 5 (37 + w) = 0 ∨ 0 < M 5 (27 + w) then 1 else 0, M) := by
  unfold f_X11_canMend
  simp (disch := omega) only [o_add_eq, tp37, tp27]
  rw [if_pos (by omega)]
  by_cases g : M 5 (37 + w) = 0
  · rw [if_pos g, if_pos (Or.inl g)]
  · rw [if_neg g, if_pos (by omega)]
    by_cases g2 : M 5 (27 + w) ≤ 0
    · rw [if_pos g2, if_neg (by omega)]
    · rw [if_neg g2, if_pos (by omega)]
theorem m_repairs {M : AM} {w : Nat} (hw : w < 10) : f_X11_repairs (w : Int) M = some (M 5 (27 + w), am_upd (am_upd M 5 (37 + w) 1) 5 (27 + w) 0) := by
  unfold f_X11_repairs
  simp (disch := omega) only [o_add_eq, tp37, tp27]
  rw [if_pos (by omega), if_pos (by omega), zlet_eq, zlet_eq]
theorem a_mend (a1 : Int) : Alike (f_X10_mend a1) (f_X11_mend a1) := by
  refine alike_h (fun c => if (0 ≤ a1 ∧ a1 < c 1) ∧ (c (37 + a1.toNat) = 0 ∨ 0 < c (27 + a1.toNat)) then c (27 + a1.toNat) else -1) (fun c => if 0 ≤ a1 ∧ a1 < c 1 then (if c (37 + a1.toNat) = 0 ∨ 0 < c (27 + a1.toNat) then 0 else 9) else 2) (fun c => if (0 ≤ a1 ∧ a1 < c 1) ∧ (c (37 + a1.toNat) = 0 ∨ 0 < c (27 + a1.toNat)) then cset (cset c (37 + a1.toNat) 1) (27 + a1.toNat) 0 else c) ?_ ?_ ?_
  · intro c M hI h9 hR
    have h1 := hI.2.1
    have hg := (Rh_iff.mp hR).1
    unfold f_X10_mend
    by_cases g1 : 0 ≤ a1 ∧ a1 < c 1
    · obtain ⟨w, rfl⟩ : ∃ w : Nat, a1 = (w : Int) := ⟨a1.toNat, by omega⟩
      rw [xwire_t hg g1, bind_s]
      simp only [if_pos g1, i10, not_false_eq_true, if_true, tnc]
      rw [x_isMendable hI hg g1.2, bind_s]
      have e26 : M 26 w = c (27 + w) := (hg.2.1 w g1.2).2.2
      by_cases g2 : c (37 + w) = 0 ∨ 0 < c (27 + w)
      · have g3 : (0 ≤ (w : Int) ∧ (w : Int) < c 1) ∧ (c (37 + w) = 0 ∨ 0 < c (27 + w)) := ⟨g1, g2⟩
        simp only [if_pos g2, if_pos g3, i10, not_false_eq_true, if_true]
        obtain ⟨N, e, hN, hE⟩ := x_mendWire hI hR g1.2
        rw [if_pos (by omega), e, bind_s, x_answer, bind_s, e26]
        refine x_end ⟨fun a ha => hE a (by rintro rfl; exact ha (by unfold xcell; omega)) (by rintro rfl; exact ha (by unfold xcell; omega)), fun j hj => by rw [hE 15 (by decide) (by decide)]⟩ hN
      · have g3 : ¬ ((0 ≤ (w : Int) ∧ (w : Int) < c 1) ∧ (c (37 + w) = 0 ∨ 0 < c (27 + w))) := fun h => g2 h.2
        simp only [if_neg g2, if_neg g3, i00, not_true_eq_false, if_false, x_fail, bind_s]
        exact x_end (Qx_refl M) hR
    · have g3 : ¬ ((0 ≤ a1 ∧ a1 < c 1) ∧ (c (37 + a1.toNat) = 0 ∨ 0 < c (27 + a1.toNat))) := fun h => g1 h.1
      rw [xwire_f hg g1, bind_s]
      simp only [if_neg g1, if_neg g3, i00, not_true_eq_false, if_false, x_fail, bind_s]
      exact x_end (Qx_refl M) hR
  · intro P hI h9
    obtain ⟨M2, hM2, e5, q2, s2, hc, hf⟩ := MS_ok P
    rw [← e5] at hI
    have h1 := hI.2.1
    unfold f_X11_mend
    rw [zlet_eq, zlet_eq, hM2, ← e5]
    by_cases g1 : 0 ≤ a1 ∧ a1 < M2 5 1
    · obtain ⟨w, rfl⟩ : ∃ w : Nat, a1 = (w : Int) := ⟨a1.toNat, by omega⟩
      rw [mwire_t hI g1, bind_s]
      simp only [if_pos g1, i10, not_false_eq_true, if_true, tnc]
      rw [m_canMend hI (by omega), bind_s]
      by_cases g2 : M2 5 (37 + w) = 0 ∨ 0 < M2 5 (27 + w)
      · have g3 : (0 ≤ (w : Int) ∧ (w : Int) < M2 5 1) ∧ (M2 5 (37 + w) = 0 ∨ 0 < M2 5 (27 + w)) := ⟨g1, g2⟩
        simp only [if_pos g2, if_pos g3, i10, if_false]
        rw [m_repairs (by omega), bind_s]
        exact m_fin (Qm_cell _ (by unfold mcell; omega) (by decide) (Qm_cell _ (by unfold mcell; omega) (by decide) q2)) (am5_2 M2 (37 + w) (27 + w) 1 0) (am5_s2 (37 + w) (27 + w) 1 0 s2)
      · have g3 : ¬ ((0 ≤ (w : Int) ∧ (w : Int) < M2 5 1) ∧ (M2 5 (37 + w) = 0 ∨ 0 < M2 5 (27 + w))) := fun h => g2 h.2
        simp only [if_neg g2, if_neg g3, if_true, m_refuse, bind_s]
        exact m_end q2 rfl
    · have g3 : ¬ ((0 ≤ a1 ∧ a1 < M2 5 1) ∧ (M2 5 (37 + a1.toNat) = 0 ∨ 0 < M2 5 (27 + a1.toNat))) := fun h => g1 h.1
      rw [mwire_f hI g1, bind_s]
      simp only [if_neg g1, if_neg g3, i00, not_true_eq_false, if_false, m_refuse, bind_s]
      exact m_end q2 rfl
  · intro c hI h9
    have h1 := hI.2.1
    by_cases g3 : (0 ≤ a1 ∧ a1 < c 1) ∧ (c (37 + a1.toNat) = 0 ∨ 0 < c (27 + a1.toNat))
    · simp only [if_pos g3]
      exact ⟨Ic_slack (Ic_whole hI (by omega) (Or.inr rfl)) (by omega) (by omega), keep_cset2 _ _ (by omega) (by omega) h9⟩
    · simp only [if_neg g3]
      exact keep_c hI h9
