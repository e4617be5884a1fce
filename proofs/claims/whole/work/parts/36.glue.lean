/-! from the two sides to the relation -/
theorem Ic_congr {c c2 : Nat → Int} (h : ∀ k, k < 83 → c2 k = c k) (hI : Ic c) : Ic c2 := by
  obtain ⟨h0, h1, h2, h3, h4, h5, h6, h7, h8⟩ := hI
  unfold Ic
  rw [h 0 (by omega), h 1 (by omega), h 2 (by omega), h 3 (by omega), h 4 (by omega), h 5 (by omega), h 6 (by omega)]
  refine ⟨h0, h1, h2, h3, h4, h5, h6, fun w hw => ?_, fun k hk => ?_⟩
  · rw [h (7 + w) (by omega), h (17 + w) (by omega), h (27 + w) (by omega), h (37 + w) (by omega)]
    exact h7 w hw
  · rw [h (47 + k) (by omega), h (53 + k) (by omega), h (59 + k) (by omega), h (65 + k) (by omega), h (71 + k) (by omega), h (77 + k) (by omega)]
    exact h8 k hk
theorem fD_congr {c c2 : Nat → Int} (h : ∀ k, k < 83 → c2 k = c k) (h1 : c 1 ≤ 10) : fD c2 = fD c :=
  fD_cong (h 0 (by omega)) (h 1 (by omega)) (fun w hw => ⟨h _ (by omega), h _ (by omega), h _ (by omega), h _ (by omega)⟩)
theorem Rg_congr {c c2 : Nat → Int} {q : Nat} {M : AM} (h : ∀ k, k < 83 → c2 k = c k) (h1 : c 1 ≤ 10) (h2 : c 2 ≤ 6) (hR : Rg c q M) : Rg c2 q M := by
  obtain ⟨⟨r0, r1, r2, r3, r4, r5, r6⟩, hw, hk, hb, hb2⟩ := hR
  refine ⟨⟨?_, ?_, ?_, ?_, ?_, ?_, ?_⟩, fun w hw2 => ?_, fun k hk2 => ?_, ?_, ?_⟩
  · rw [h 3 (by omega)]; exact r0
  · rw [h 4 (by omega)]; exact r1
  · rw [h 0 (by omega)]; exact r2
  · rw [h 1 (by omega)]; exact r3
  · rw [h 2 (by omega)]; exact r4
  · rw [h 5 (by omega)]; exact r5
  · rw [h 6 (by omega)]; exact r6
  · rw [h 1 (by omega)] at hw2
    rw [h (7 + w) (by omega), h (17 + w) (by omega), h (27 + w) (by omega)]; exact hw w hw2
  · rw [h 2 (by omega)] at hk2
    rw [h (47 + k) (by omega), h (53 + k) (by omega), h (59 + k) (by omega), h (71 + k) (by omega), h (77 + k) (by omega)]; exact hk k hk2
  · rw [h 1 (by omega)]; exact bits_cong (fun w hw => h _ (by omega)) hb
  · rw [h 2 (by omega)]; exact bits_cong (fun w hw => h _ (by omega)) hb2
theorem Rh_congr {c c2 : Nat → Int} {q : Nat} {M : AM} (h : ∀ k, k < 83 → c2 k = c k) (h1 : c 1 ≤ 10) (h2 : c 2 ≤ 6) (hR : Rh c q M) : Rh c2 q M := by
  obtain ⟨hg, hz⟩ := Rh_iff.mp hR
  exact Rh_iff.mpr ⟨Rg_congr h h1 h2 hg, Rz_cong (h 0 (by omega)) (fD_congr h h1) rfl rfl hz⟩
theorem blk83 {r : Nat → Int} : ∀ k, k < 83 → blk r 0 k = r k := fun k hk => blk0_at (by omega)
theorem blk83' {r : Nat → Int} : ∀ k, k < 83 → r k = blk r 0 k := fun k hk => (blk0_at (by omega)).symm
theorem ystep_c {c c2 : Nat → Int} {q : Nat} {M : AM} {s r : Nat} (h1 : c 1 ≤ c2 1) (h2 : c2 2 = c 2) (h : ∀ k, 85 + 9 * s ≤ k → k < 94 + 9 * s → c2 k = c k) (hR : ystep c q M s r) : ystep c2 q M s r := by
  unfold ystep at hR ⊢
  rw [h2, h (85 + 9 * s) (by omega) (by omega), h (86 + 9 * s) (by omega) (by omega), h (90 + 9 * s) (by omega) (by omega), h (91 + 9 * s) (by omega) (by omega), h (92 + 9 * s) (by omega) (by omega)]
  obtain ⟨a1, a2, a3, a4, a5, a6, a7⟩ := hR
  refine ⟨a1, a2, a3, a4, a5, fun h => ?_, a7⟩
  have := a6 h
  omega
theorem yseq_c {c c2 : Nat → Int} {q : Nat} {M : AM} {E : Nat} (h1 : c 1 ≤ c2 1) (h2 : c2 2 = c 2) (h : ∀ k, 85 ≤ k → k < 85 + 9 * E → c2 k = c k) : ∀ (n d s e r r2 : Nat), e ≤ E → yseq c q M n d s e r r2 → yseq c2 q M n d s e r r2 := by
  intro n
  induction n with
  | zero => intro d s e r r2 _ hR; exact hR
  | succ n ih =>
    intro d s e r r2 he hR
    rcases hR with hR | ⟨g1, g2, hR⟩
    · exact Or.inl hR
    · refine Or.inr ⟨g1, ystep_c h1 h2 (fun k a b => h k (by omega) (by omega)) g2, ?_⟩
      rw [h (85 + 9 * s) (by omega) (by omega), h (93 + 9 * s) (by omega) (by omega)]
      rcases hR with ⟨a1, a2, a3⟩ | ⟨a1, d', t, m, b1, b2, b3, b4, b5, b6, b7, b8, b9⟩
      · exact Or.inl ⟨a1, a2, ih _ _ _ _ _ he a3⟩
      · exact Or.inr ⟨a1, d', t, m, b1, b2, b3, b4, ih _ _ _ _ _ (by omega) b5, b6, b7, b8, ih _ _ _ _ _ he b9⟩
theorem Ry_c {c c2 : Nat → Int} {q : Nat} {M : AM} (h1 : c 1 ≤ c2 1) (h2 : c2 2 = c 2) (h : ∀ k, 83 ≤ k → k < 355 → c2 k = c k) (hR : Ry c q M) : Ry c2 q M := by
  unfold Ry at hR ⊢
  rw [h 83 (by omega) (by omega), h 84 (by omega) (by omega)]
  rcases hR with hR | ⟨a1, a2, a3, n, r, b1, b2, b3, b4, b5⟩
  · exact Or.inl hR
  · exact Or.inr ⟨a1, a2, a3, n, r, b1, b2, b3, b4, yseq_c (E := 30) h1 h2 (fun k a b => h k (by omega) (by omega)) _ _ _ _ _ _ b2 b5⟩
/-- what a call of the model may touch -/
def mcell (a : Nat) : Prop := a = 0 ∨ a = 5 ∨ a = 6 ∨ a = 7 ∨ a = 9 ∨ a = 10 ∨ a = 11 ∨ a = 12 ∨ a = 13
def Qf (M N : AM) : Prop := N 0 2 = M 0 2 ∧ N 0 3 = M 0 3 ∧ N 0 8 = M 0 8 ∧ N 0 10 = M 0 10 ∧ N 0 11 = M 0 11 ∧ N 0 24 = M 0 24 ∧ N 0 34 = M 0 34
def Qm (M N : AM) : Prop := (∀ a, ¬ mcell a → N a = M a) ∧ Qf M N
/-- what a call of the class may touch -/
def xcell (a : Nat) : Prop := a = 15 ∨ (23 ≤ a ∧ a ≤ 31) ∨ (33 ≤ a ∧ a ≤ 44) ∨ (53 ≤ a ∧ a ≤ 73)
def Qx (M N : AM) : Prop := (∀ a, ¬ xcell a → N a = M a) ∧ ∀ j, j ≠ 0 → N 15 j = M 15 j
theorem Qm_refl (M : AM) : Qm M M := ⟨fun _ _ => rfl, rfl, rfl, rfl, rfl, rfl, rfl, rfl⟩
theorem Qm_trans {M N P : AM} (h1 : Qm M N) (h2 : Qm N P) : Qm M P := by
  obtain ⟨a, a1, a2, a3, a4, a5, a6, a7⟩ := h1
  obtain ⟨b, b1, b2, b3, b4, b5, b6, b7⟩ := h2
  exact ⟨fun x hx => (b x hx).trans (a x hx), b1.trans a1, b2.trans a2, b3.trans a3, b4.trans a4, b5.trans a5, b6.trans a6, b7.trans a7⟩
theorem Qx_refl (M : AM) : Qx M M := ⟨fun _ _ => rfl, fun _ _ => rfl⟩
theorem Qx_trans {M N P : AM} (h1 : Qx M N) (h2 : Qx N P) : Qx M P := ⟨fun x hx => (h2.1 x hx).trans (h1.1 x hx), fun j hj => (h2.2 j hj).trans (h1.2 j hj)⟩
theorem Qm_Eo {l : List Nat} {M N : AM} (h : Eo l M N) (hl : ∀ a, a ∈ l → mcell a ∧ a ≠ 0) : Qm M N := by
  have h0 : N 0 = M 0 := h 0 (fun hm => (hl 0 hm).2 rfl)
  refine ⟨fun a ha => h a (fun hm => ha (hl a hm).1), ?_⟩
  unfold Qf
  rw [h0]
  exact ⟨rfl, rfl, rfl, rfl, rfl, rfl, rfl⟩
theorem Qx_Eo {l : List Nat} {M N : AM} (h : Eo l M N) (hl : ∀ a, a ∈ l → xcell a ∧ a ≠ 15) : Qx M N := by
  have h0 : N 15 = M 15 := h 15 (fun hm => (hl 15 hm).2 rfl)
  exact ⟨fun a ha => h a (fun hm => ha (hl a hm).1), fun j _ => by rw [h0]⟩
theorem Qx_Hm {c : Nat → Int} {M N : AM} (h : Hm c 23 M N) : Qx M N := by
  have h0 : N 15 = M 15 := h.2 15 (by decide) (by decide)
  refine ⟨fun a ha => h.2 a ?_ ?_, fun j _ => by rw [h0]⟩
  · rintro rfl; exact ha (Or.inr (Or.inl ⟨by omega, by omega⟩))
  · rintro rfl; exact ha (Or.inr (Or.inr (Or.inl ⟨by omega, by omega⟩)))
theorem Qx_st (M : AM) (s : Int) : Qx M (am_upd M 15 0 s) := ⟨fun a ha => am_upd_cell (by rintro rfl; exact ha (Or.inl rfl)), fun j hj => am_upd_ne (fun h => hj h.2)⟩
theorem Qm_st (M : AM) (s : Int) : Qm M (am_upd M 0 0 s) := ⟨fun a ha => am_upd_cell (by rintro rfl; exact ha (Or.inl rfl)), by refine ⟨?_, ?_, ?_, ?_, ?_, ?_, ?_⟩ <;> exact am_upd_ne (by omega)⟩
/-- a field of the model that is nobody's business -/
def mscrap (j : Nat) : Prop := j ≠ 2 ∧ j ≠ 3 ∧ j ≠ 8 ∧ j ≠ 10 ∧ j ≠ 11 ∧ j ≠ 24 ∧ j ≠ 34
theorem Qm_f (M : AM) {j : Nat} (x : Int) (hj : mscrap j) : Qm M (am_upd M 0 j x) := by
  obtain ⟨a, b, d, e, f, g, i⟩ := hj
  exact ⟨fun q hq => am_upd_cell (by rintro rfl; exact hq (Or.inl rfl)), am_upd_ne (fun h => a h.2.symm), am_upd_ne (fun h => b h.2.symm), am_upd_ne (fun h => d h.2.symm), am_upd_ne (fun h => e h.2.symm), am_upd_ne (fun h => f h.2.symm), am_upd_ne (fun h => g h.2.symm), am_upd_ne (fun h => i h.2.symm)⟩
theorem Qm_cell {M N : AM} (x : Int) {q j : Nat} (hq : mcell q) (h0 : q ≠ 0) (h : Qm M N) : Qm M (am_upd N q j x) := by
  have e : ∀ i, am_upd N q j x 0 i = N 0 i := fun i => by rw [am_upd_cell (fun h => h0 h.symm)]
  refine ⟨fun a ha => by rw [am_upd_cell (by rintro rfl; exact ha hq)]; exact h.1 a ha, ?_⟩
  unfold Qf
  rw [e, e, e, e, e, e, e]
  exact h.2
/-- a call of the model begins -/
theorem MS_ok (P : AM) : ∃ M2, am_upd (am_upd P 0 1 0) 0 0 0 = M2 ∧ M2 5 = P 5 ∧ Qm P M2 ∧ M2 0 0 = 0 ∧ (∀ a, a ≠ 0 → M2 a = P a) ∧ (∀ j, j ≠ 0 → j ≠ 1 → M2 0 j = P 0 j) := by
  refine ⟨_, rfl, ?_, ?_, ?_, ?_, ?_⟩
  · rw [am_upd_cell (by decide), am_upd_cell (by decide)]
  · exact Qm_trans (Qm_f P 0 (by unfold mscrap; omega)) (Qm_st _ 0)
  · exact am_upd_self _ _ _ _
  · intro a ha; rw [am_upd_cell ha, am_upd_cell ha]
  · intro j h0 h1; rw [am_upd_ne (fun h => h0 h.2), am_upd_ne (fun h => h1 h.2)]
theorem RR_mk {M N1 N2 : AM} (hR : RR M) (hx : Qx M N1) (hm : Qm N1 N2) (hI : Ic (N2 5)) (h9 : N2 5 5 ≤ 9999) (hRh : Rh (N2 5) 23 N1) (h012 : N2 5 0 = M 5 0 ∧ N2 5 1 = M 5 1 ∧ N2 5 2 = M 5 2) (h83 : ∀ k, 83 ≤ k → N2 5 k = M 5 k) (hs : N2 0 0 = N1 15 0) : RR N2 := by
  obtain ⟨r1, r2, r3, r4, r5, r6, ⟨b1, b2, b3, b4, b5⟩, ⟨n, hn, e1, e2, hb⟩, ⟨l1, l2, l3⟩⟩ := hR
  obtain ⟨hx1, hx2⟩ := hx
  obtain ⟨hm1, f2, f3, f8, f10, f11, f24, f34⟩ := hm
  have h0 : N1 0 = M 0 := hx1 0 (by unfold xcell; omega)
  have h15 : N2 15 = N1 15 := hm1 15 (by unfold mcell; omega)
  have hc : ∀ a, ¬ xcell a → ¬ mcell a → N2 a = M a := fun a h1 h2 => (hm1 a h2).trans (hx1 a h1)
  rw [h0] at f2 f3 f8 f10 f11 f24 f34
  have hI0 := Ic_congr blk83' b1
  refine ⟨by rw [h15, hs], ?_, ?_, ?_, ?_, ?_, ?_, ?_, ?_⟩
  · rw [h15, hx2 1 (by decide), hx2 2 (by decide), f2, f3]; exact r2
  · rw [h15, hx2 4 (by decide), hx2 5 (by decide), f10, f11]; exact r3
  · exact Rt_cong (hc 1 (by unfold xcell; omega) (by unfold mcell; omega)) (hc 2 (by unfold xcell; omega) (by unfold mcell; omega)) (hc 3 (by unfold xcell; omega) (by unfold mcell; omega)) (fun t ht => ⟨hc _ (by unfold xcell; omega) (by unfold mcell; omega), hc _ (by unfold xcell; omega) (by unfold mcell; omega)⟩) r4
  · unfold Rp at r5 ⊢
    rw [hc 20 (by unfold xcell; omega) (by unfold mcell; omega), hc 21 (by unfold xcell; omega) (by unfold mcell; omega), hc 4 (by unfold xcell; omega) (by unfold mcell; omega), f8]
    exact r5
  · unfold Rk at r6 ⊢
    rw [hc 22 (by unfold xcell; omega) (by unfold mcell; omega)]
    exact r6
  · have hb1 := hI.2.1
    have hb2 := hI.2.2.1
    refine ⟨Ic_congr blk83 hI, by rw [blk83 5 (by omega)]; exact h9, ?_, ?_, ?_⟩
    · refine Rh_congr blk83 (by omega) (by omega) ?_
      exact Rh_cong (fun i hi => hm1 _ (by unfold mcell; omega)) hRh
    · rw [hc 8 (by unfold xcell; omega) (by unfold mcell; omega)]
      unfold Rn at b4 ⊢
      rw [hc 32 (by unfold xcell; omega) (by unfold mcell; omega), blk83 0 (by omega), blk83 1 (by omega), blk83 2 (by omega), h012.1, h012.2.1, h012.2.2]
      rw [blk83 0 (by omega), blk83 1 (by omega), blk83 2 (by omega)] at b4
      exact b4
    · refine Ry_c (c := blk (M 5) 0) (by rw [blk83 1 (by omega), blk83 1 (by omega), h012.2.1]; omega) (by rw [blk83 2 (by omega), blk83 2 (by omega), h012.2.2]) (fun k h1 h2 => ?_) (Ry_cong (fun i hi => hc _ (by unfold xcell; omega) (by unfold mcell; omega)) b5)
      rw [blk0_at h2, blk0_at h2, h83 k h1]
  · refine ⟨n, hn, by rw [h15, hx2 13 (by decide)]; exact e1, by rw [f24]; exact e2, fun i hi => ?_⟩
    exact Rb_cong (fun k hk => h83 _ (by omega)) (fun k hk => by rw [hc 8 (by unfold xcell; omega) (by unfold mcell; omega)]) (fun j hj => hc _ (by unfold xcell; omega) (by unfold mcell; omega)) (fun j hj => hc _ (by unfold xcell; omega) (by unfold mcell; omega)) (hb i hi)
  · refine ⟨by rw [h15, hx2 19 (by decide), f34]; exact l1, by rw [f34]; exact l2, fun i hi => ?_⟩
    rw [hc 19 (by unfold xcell; omega) (by unfold mcell; omega), hc 14 (by unfold xcell; omega) (by unfold mcell; omega)]
    exact l3 i hi
theorem RR_house {M : AM} (hR : RR M) : Ic (M 5) ∧ M 5 5 ≤ 9999 ∧ Rh (M 5) 23 M := by
  obtain ⟨b1, b2, b3, b4, b5⟩ := hR.2.2.2.2.2.2.1
  have hb1 := b1.2.1
  have hb2 := b1.2.2.1
  exact ⟨Ic_congr blk83' b1, by rw [blk83 5 (by omega)] at b2; exact b2, Rh_congr blk83' (by omega) (by omega) b3⟩
/-- calls that look at the HOUSE alone, and change it alone -/
theorem alike_h {fx fm : AM → Option (Int × AM)} (v s : (Nat → Int) → Int) (nx : (Nat → Int) → Nat → Int)
    (hx : ∀ c M, Ic c → c 5 ≤ 9999 → Rh c 23 M → ∃ N, fx M = some (v c, N) ∧ Qx M N ∧ Rh (nx c) 23 N ∧ N 15 0 = s c)
    (hm : ∀ P, Ic (P 5) → P 5 5 ≤ 9999 → ∃ N, fm P = some (v (P 5), N) ∧ Qm P N ∧ N 5 = nx (P 5) ∧ N 0 0 = s (P 5))
    (hn : ∀ c, Ic c → c 5 ≤ 9999 → Ic (nx c) ∧ nx c 5 ≤ 9999 ∧ (nx c 0 = c 0 ∧ nx c 1 = c 1 ∧ nx c 2 = c 2) ∧ ∀ k, 83 ≤ k → nx c k = c k) : Alike fx fm := by
  intro M hR
  obtain ⟨h1, h2, h3⟩ := RR_house hR
  obtain ⟨N1, e1, q1, R1, s1⟩ := hx (M 5) M h1 h2 h3
  have h5 : N1 5 = M 5 := q1.1 5 (by unfold xcell; omega)
  obtain ⟨N2, e2, q2, R2, s2⟩ := hm N1 (by rw [h5]; exact h1) (by rw [h5]; exact h2)
  rw [h5] at e2 R2 s2
  obtain ⟨n1, n2, n3, n4⟩ := hn (M 5) h1 h2
  exact ⟨_, N1, N2, e1, e2, RR_mk hR q1 q2 (by rw [R2]; exact n1) (by rw [R2]; exact n2) (by rw [R2]; exact R1) (by rw [R2]; exact n3) (by rw [R2]; exact n4) (by rw [s2, s1])⟩
/-- calls that change nothing -/
theorem alike_q {fx fm : AM → Option (Int × AM)} (v s : (Nat → Int) → Int)
    (hx : ∀ c M, Ic c → c 5 ≤ 9999 → Rh c 23 M → ∃ N, fx M = some (v c, N) ∧ Qx M N ∧ Rh c 23 N ∧ N 15 0 = s c)
    (hm : ∀ P, Ic (P 5) → P 5 5 ≤ 9999 → ∃ N, fm P = some (v (P 5), N) ∧ Qm P N ∧ N 5 = P 5 ∧ N 0 0 = s (P 5)) : Alike fx fm :=
  alike_h v s (fun c => c) hx hm (fun c h1 h2 => ⟨h1, h2, ⟨rfl, rfl, rfl⟩, fun _ _ => rfl⟩)
