/-! the cells that the relation looks at -/
def relc (q : Nat) : Bool := q == 1 || q == 2 || q == 3 || q == 4 || q == 5 || q == 8 || q == 14 || q == 19 || q == 21 || q == 22 || (Nat.ble 45 q && Nat.ble q 51) || (Nat.ble 74 q && Nat.ble q 138)
/-- both sides answer alike -/
def Alike (fx fm : AM → Option (Int × AM)) : Prop := ∀ M, RR M → ∃ v N1 N2, fx M = some (v, N1) ∧ fm N1 = some (v, N2) ∧ RR N2
theorem relc_int {q : Nat} (h : 45 ≤ q ∧ q ≤ 51 ∨ 74 ≤ q ∧ q ≤ 138) : relc q = true := by
  unfold relc
  rcases h with ⟨h1, h2⟩ | ⟨h1, h2⟩
  · simp [Nat.ble_eq, h1, h2]
  · simp [Nat.ble_eq, h1, h2]
theorem Rm_same {M N : AM} (h : ∀ q, relc q = true → N q = M q) (h15 : N 15 13 = M 15 13) (h0 : N 0 24 = M 0 24) (hR : Rm M) : Rm N := by
  obtain ⟨n, hn, e1, e2, hb⟩ := hR
  refine ⟨n, hn, by rw [h15]; exact e1, by rw [h0]; exact e2, fun i hi => ?_⟩
  exact Rb_cong (fun k _ => by rw [h 5 rfl]) (fun k _ => by rw [h 8 rfl]) (fun j hj => h _ (relc_int (by omega))) (fun j hj => h _ (relc_int (by omega))) (hb i hi)
/-- a change that spares what the relation looks at, the house's own cells told apart -/
theorem RR_same {M N : AM} (h : ∀ q, relc q = true → N q = M q) (hh : Rh (blk (M 5) 0) 23 N) (h32 : N 32 = M 32) (h15 : N 15 1 = M 15 1 ∧ N 15 2 = M 15 2 ∧ N 15 4 = M 15 4 ∧ N 15 5 = M 15 5 ∧ N 15 13 = M 15 13 ∧ N 15 19 = M 15 19)
    (h0 : N 0 2 = M 0 2 ∧ N 0 3 = M 0 3 ∧ N 0 8 = M 0 8 ∧ N 0 10 = M 0 10 ∧ N 0 11 = M 0 11 ∧ N 0 24 = M 0 24 ∧ N 0 34 = M 0 34) (h20 : N 20 7 = M 20 7) (hs : N 15 0 = N 0 0) (hR : RR M) : RR N := by
  obtain ⟨r1, r2, r3, r4, r5, r6, r7, r8, r9⟩ := hR
  obtain ⟨x1, x2, x4, x5, x13, x19⟩ := h15
  obtain ⟨y2, y3, y8, y10, y11, y24, y34⟩ := h0
  refine ⟨hs, ⟨by rw [x1, y2]; exact r2.1, by rw [x2, y3]; exact r2.2⟩, ⟨by rw [x4, y10]; exact r3.1, by rw [x5, y11]; exact r3.2⟩, ?_, ?_, ?_, ?_, ?_, ?_⟩
  · exact Rt_cong (h 1 rfl) (h 2 rfl) (h 3 rfl) (fun t ht => ⟨h _ (relc_int (by omega)), h _ (relc_int (by omega))⟩) r4
  · unfold Rp at r5 ⊢
    rw [h20, y8, h 21 rfl, h 4 rfl]
    exact r5
  · unfold Rk at r6 ⊢
    rw [h 22 rfl]
    exact r6
  · obtain ⟨a1, a2, a3, a4, a5⟩ := r7
    unfold Rb
    rw [h 5 rfl, h 8 rfl]
    refine ⟨a1, a2, hh, Rn_cong h32 (fun _ _ => rfl) a1.1.2 a1.2.1.2 a1.2.2.1.2 a4, Ry_cong (fun i hi => h _ (relc_int (by omega))) a5⟩
  · exact Rm_same h x13 y24 r8
  · unfold Rl at r9 ⊢
    rw [x19, y34, h 19 rfl, h 14 rfl]
    exact r9
/-- nothing but STATUS and the model's own scraps -/
theorem RR_status {M : AM} (a b : Int) (hR : RR M) : RR (am_upd (am_upd (am_upd M 15 0 a) 0 1 b) 0 0 a) := by
  refine RR_same (fun q hq => ?_) ?_ ?_ ?_ ?_ ?_ ?_ hR
  · have h15 : q ≠ 15 := by rintro rfl; cases hq
    have h0 : q ≠ 0 := by rintro rfl; cases hq
    rw [am_upd_cell h0, am_upd_cell h0, am_upd_cell h15]
  · exact Rh_cong (M := M) (fun i hi => by rw [am_upd_cell (by omega), am_upd_cell (by omega), am_upd_cell (by omega)]) hR.2.2.2.2.2.2.1.2.2.1
  · rw [am_upd_cell (by omega), am_upd_cell (by omega), am_upd_cell (by omega)]
  · simp [am_upd_eq]
  · simp [am_upd_eq]
  · simp [am_upd_eq]
  · simp [am_upd_eq]
-- the four that tell, without a STATUS
theorem s_status : Alike f_X10_status f_X11_status := by
  intro M hR
  refine ⟨M 0 0, M, am_upd M 0 1 0, by rw [← hR.1]; rfl, by simp [f_X11_status, zlet_eq, am_upd_eq], ?_⟩
  refine RR_same (fun q hq => ?_) ?_ ?_ ?_ ?_ ?_ ?_ hR
  · exact am_upd_cell (by rintro rfl; cases hq)
  · exact Rh_cong (M := M) (fun i hi => am_upd_cell (by omega)) hR.2.2.2.2.2.2.1.2.2.1
  · exact am_upd_cell (by omega)
  · simp [am_upd_eq]
  · simp [am_upd_eq]
  · simp [am_upd_eq]
  · simp [am_upd_eq, hR.1]
