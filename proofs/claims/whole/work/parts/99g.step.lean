/-! YEARS: a STEP on both sides -/
theorem PG_adv0 {i : Nat} {A A' : AM} (h : PG i A') : (i : Int) ≤ A' 20 11 := h.1
theorem step_both {L : Nat} : ∀ (d D g i s r : Nat) (A B : AM), D + d = 3 → d < g → TK L A B → FO A B → HN A B → YQ D s r A B → PG i A → (D = 0 → ¬ A 20 0 = 0) → (1 ≤ D → ¬ A 20 3 = 21) → ∃ B', fc_X11_readStep g (D : Int) B = some B' ∧ SO L i D s r A B B' := by
  intro d
  induction d with
  | zero =>
    intro D g i s r A B hDd hg t f hH hq hp hz0 hk0
    have hD : D = 3 := by omega
    obtain ⟨g', rfl⟩ : ∃ g', g = g' + 1 := ⟨g - 1, by omega⟩
    show ∃ B', fo_X11_readStep (fc_X11_readStep g') (D : Int) B = some B' ∧ SO L i D s r A B B'
    have h10 := hq.2.2.1
    by_cases hz : A 20 0 = 0
    · have e3 : A 20 3 = -1 := t.2.2.2.2.2.2.1 (by omega)
      obtain ⟨A', B', e1, e2, b1, x1, y1⟩ := m_nostep (D := (D : Int)) (fc_X11_readStep g') t f (by rw [e3]; decide)
      refine ⟨B', e2, Or.inr ⟨A', 0, b1, x1, y1, PG_L t hp, fun n => ?_⟩⟩
      rw [show n + 0 + 1 = n + 1 by omega, ry_fin hz]
      unfold f_X9_readYears_63
      rw [if_neg (by omega), e1, bind_s]
      dsimp only
      rw [if_pos (Or.inl rfl)]
    · have hk := hk0 (by omega)
      rcases head_both (fc_X11_readStep g') t f hH hq with ⟨kd, blk, A1, B1, hbk, hs, e1, e2, t1, f1, v1, q1, ys, ek, h60, F1⟩ | ⟨A1, B1, e1, e2, b1, x1, y1⟩
      · have hb0 : blk = 0 := by omega
        have hkd : ¬ (kd = 6 ∨ kd = 7) := by omega
        subst hb0
        have e8 : o_add ((1505 + 9 * s : Nat) : Int) 8 = ((1505 + 9 * s + 8 : Nat) : Int) := by rw [o_add_eq (by omega) (by omega)]; omega
        have eB : f_X11_readStep_142 (fc_X11_readStep g') zB (D : Int) ((0 : Nat) : Int) ((1505 + 9 * s : Nat) : Int) B1 = some (am_upd B1 5 (1505 + 9 * s + 8) ((s + 1 : Nat) : Int)) := by
          rw [zB_succ, f_X11_readStep_142, if_pos (show ((0 : Nat) : Int) = 0 from rfl)]
          unfold f_X11_readStep_170
          rw [if_pos (show ((0 : Nat) : Int) = 0 from rfl), e8, if_pos (by omega), zlet_eq, tnc, q1.1.2.1]
        have yB : YF B1 (am_upd B1 5 (1505 + 9 * s + 8) ((s + 1 : Nat) : Int)) := YF_c _ (by omega)
        refine ⟨_, by rw [e2, eB], Or.inl ⟨A1, 1, s + 1, r + 1, TK_cong t1 rfl rfl rfl (am_upd_cell (by decide)) (fun j _ => by rw [am_upd_cell (by decide)]), FO_cong f1 rfl (by rw [am_upd_cell (by decide)]), v1, PG_next hp hz v1, ⟨⟨q1.1.1, by rw [am_upd_cell (by decide)]; exact q1.1.2.1, q1.1.2.2⟩, ⟨q1.2.1.1, by have := q1.2.1.2; omega⟩, q1.2.2.1, q1.2.2.2⟩, ?_, ⟨by omega, by omega⟩, ⟨F1.1, YF_trans F1.2.1 yB, F1.2.2.1, F1.2.2.2.1, fun k hk2 => by rw [am_upd_ne (by omega)]; exact F1.2.2.2.2 k hk2⟩, fun n => ?_⟩⟩
        · have hc : ∀ k, 85 + 9 * s ≤ k → k < 93 + 9 * s → cN (am_upd B1 5 (1505 + 9 * s + 8) ((s + 1 : Nat) : Int)) k = cN B1 k := fun k a b => cN_cong (by omega) (am_upd_ne (by omega))
          rw [show s + 1 - s = 0 + 1 by omega]
          refine Or.inr ⟨by omega, ystep_loc (cN_lo (by decide) yB) (cN_lo (by decide) yB) (fun _ _ _ => rfl) hc ys, Or.inl ⟨?_, ?_, ⟨rfl, rfl⟩⟩⟩
          · rw [hc _ (by omega) (by omega), cN_0, ek]; exact hkd
          · rw [cN_8, show 1513 + 9 * s = 1505 + 9 * s + 8 by omega, am_upd_self]
        · rw [ry_step t hp hz hk e1, if_pos (by decide)]
      · refine ⟨B1, e2, Or.inr ⟨A1, 0, b1, x1, y1, PG_L t hp, fun n => ?_⟩⟩
        rw [show n + 0 + 1 = n + 1 by omega, ry_step t hp hz hk e1, if_neg (show ¬ ¬ (0 : Int) = 0 by decide)]
  | succ d ih =>
    intro D g i s r A B hDd hg t f hH hq hp hz0 hk0
    obtain ⟨g', rfl⟩ : ∃ g', g = g' + 1 := ⟨g - 1, by omega⟩
    show ∃ B', fo_X11_readStep (fc_X11_readStep g') (D : Int) B = some B' ∧ SO L i D s r A B B'
    have h10 := hq.2.2.1
    by_cases hz : A 20 0 = 0
    · have hD1 : ¬ D = 0 := fun h => hz0 h hz
      have e3 : A 20 3 = -1 := t.2.2.2.2.2.2.1 (by omega)
      obtain ⟨A', B', e1, e2, b1, x1, y1⟩ := m_nostep (D := (D : Int)) (fc_X11_readStep g') t f (by rw [e3]; decide)
      refine ⟨B', e2, Or.inr ⟨A', 0, b1, x1, y1, PG_L t hp, fun n => ?_⟩⟩
      rw [show n + 0 + 1 = n + 1 by omega, ry_fin hz]
      unfold f_X9_readYears_63
      rw [if_neg (by omega), e1, bind_s]
      dsimp only
      rw [if_pos (Or.inl rfl)]
    · by_cases hk : A 20 3 = 21
      · have hD0 : D = 0 := by
          rcases Nat.eq_zero_or_pos D with h | h
          · exact h
          · exact absurd hk (hk0 h)
        obtain ⟨A', B', e1, e2, b1, x1, y1⟩ := m_nostep (D := (D : Int)) (fc_X11_readStep g') t f (by rw [hk]; decide)
        have eE : f_X9_readEnd A = some (0, A') := by
          unfold f_X9_readEnd
          rw [if_neg (by omega), e1, bind_s]
          dsimp only
          rw [if_pos (Or.inl rfl)]
        refine ⟨B', e2, Or.inr ⟨A', 0, b1, x1, y1, PG_L t hp, fun n => ?_⟩⟩
        rw [show n + 0 + 1 = n + 1 by omega, ry_end t hp hk eE, if_neg (show ¬ ¬ (0 : Int) = 0 by decide)]
      · rcases head_both (fc_X11_readStep g') t f hH hq with ⟨kd, blk, A1, B1, hbk, hs, e1, e2, t1, f1, v1, q1, ys, ek, h60, F1⟩ | ⟨A1, B1, e1, e2, b1, x1, y1⟩
        · rcases hbk with ⟨rfl, hkd⟩ | ⟨rfl, hkd, hD3⟩
          · have e8 : o_add ((1505 + 9 * s : Nat) : Int) 8 = ((1505 + 9 * s + 8 : Nat) : Int) := by rw [o_add_eq (by omega) (by omega)]; omega
            have eB : f_X11_readStep_142 (fc_X11_readStep g') zB (D : Int) ((0 : Nat) : Int) ((1505 + 9 * s : Nat) : Int) B1 = some (am_upd B1 5 (1505 + 9 * s + 8) ((s + 1 : Nat) : Int)) := by
              rw [zB_succ, f_X11_readStep_142, if_pos (show ((0 : Nat) : Int) = 0 from rfl)]
              unfold f_X11_readStep_170
              rw [if_pos (show ((0 : Nat) : Int) = 0 from rfl), e8, if_pos (by omega), zlet_eq, tnc, q1.1.2.1]
            have yB : YF B1 (am_upd B1 5 (1505 + 9 * s + 8) ((s + 1 : Nat) : Int)) := YF_c _ (by omega)
            refine ⟨_, by rw [e2, eB], Or.inl ⟨A1, 1, s + 1, r + 1, TK_cong t1 rfl rfl rfl (am_upd_cell (by decide)) (fun j _ => by rw [am_upd_cell (by decide)]), FO_cong f1 rfl (by rw [am_upd_cell (by decide)]), v1, PG_next hp hz v1, ⟨⟨q1.1.1, by rw [am_upd_cell (by decide)]; exact q1.1.2.1, q1.1.2.2⟩, ⟨q1.2.1.1, by have := q1.2.1.2; omega⟩, q1.2.2.1, q1.2.2.2⟩, ?_, ⟨by omega, by omega⟩, ⟨F1.1, YF_trans F1.2.1 yB, F1.2.2.1, F1.2.2.2.1, fun k hk2 => by rw [am_upd_ne (by omega)]; exact F1.2.2.2.2 k hk2⟩, fun n => ?_⟩⟩
            · have hc : ∀ k, 85 + 9 * s ≤ k → k < 93 + 9 * s → cN (am_upd B1 5 (1505 + 9 * s + 8) ((s + 1 : Nat) : Int)) k = cN B1 k := fun k a b => cN_cong (by omega) (am_upd_ne (by omega))
              rw [show s + 1 - s = 0 + 1 by omega]
              refine Or.inr ⟨by omega, ystep_loc (cN_lo (by decide) yB) (cN_lo (by decide) yB) (fun _ _ _ => rfl) hc ys, Or.inl ⟨?_, ?_, ⟨rfl, rfl⟩⟩⟩
              · rw [hc _ (by omega) (by omega), cN_0, ek]; exact hkd
              · rw [cN_8, show 1513 + 9 * s = 1505 + 9 * s + 8 by omega, am_upd_self]
            · rw [ry_step t hp hz hk e1, if_pos (by decide)]
          · -- a body
            have hw : 1420 ≤ 1505 + 9 * s ∧ 1505 + 9 * s + 8 < 1775 := by omega
            have H1 := HN_XY hH F1.1 F1.2.1
            have p1 := PG_next hp hz v1
            have hL := t1.1.1
            have h11 := t1.2.1.2.1
            have hrun := body_loop (L := L) (D := D) (w := 1505 + 9 * s) g' hD3 hw (fun i s r A B t f hH hq hp hk => ih (D + 1) g' i s r A B (by omega) (by omega) t f hH hq hp (fun h => by omega) (fun _ => hk)) (2 * L + 2) (i + 1) (s + 1) (r + 1) A1 B1 (by
              by_cases h0 : A1 20 0 = 0
              · rw [if_pos h0]; omega
              · rw [if_neg h0]; omega) t1 f1 H1 q1 p1
            rcases hrun with ⟨A2, B2, k, e, m, g1, t2, f2, g4, g5, p2, q2, g8, ⟨g9, g10⟩, F2, go⟩ | ⟨A2, B2, k, g1, b2, x2, y2, g5, halt⟩
            · have a60 : A2 60 D = (r : Int) := by rw [F2.2.2.2.1 D (by omega)]; exact h60 rfl
              rcases end_both (fc_X11_readStep g') t2 f2 g5 q2 a60 (by omega) hw with ⟨A3, B3, x1, x2, t3, f3, v3, q3, ⟨w1, w2, w3⟩, w8, xx, yy, w9, w10, w11⟩ | ⟨A3, B3, x1, x2, b3, xx, yy⟩
              · refine ⟨B3, ?_, Or.inl ⟨A3, 1 + k + 1, e, m + 1, t3, f3, ?_, ?_, q3, ?_, ⟨by omega, by omega⟩, ?_, fun n => ?_⟩⟩
                · rw [e2]
                  exact (g1 zB (by unfold zB; omega)).trans x2
                · unfold Adv at v1 v3 ⊢
                  omega
                · have hz2 : ¬ A2 20 0 = 0 := by have := kw_word t2 (by omega); omega
                  have := PG_next p2 hz2 v3
                  rw [show i + (1 + k + 1) = i + 1 + k + 1 by omega]
                  exact this
                · have hyy : YF B2 B3 := yy
                  rw [show e - s = (e - (s + 1)) + 1 by omega]
                  have hcl : ∀ k, k < 83 → cN B3 k = cN B1 k := fun k hk => (cN_lo hk yy).trans (cN_lo hk F2.2.1)
                  have hch : ∀ k, 85 + 9 * s ≤ k → k < 93 + 9 * s → cN B3 k = cN B1 k := fun k a b => (cN_cong (by omega) (w11 _ (by omega))).trans (cN_cong (by omega) (F2.2.2.2.2 _ (by omega)))
                  have hst : ystep (cN B3) 53 A3 s r := ystep_loc5 (hcl 1 (by decide)) (hcl 2 (by decide)) (fun i a b => by
                    rw [w9 (53 + i) r (by omega) (by omega) (by omega) (by omega)]
                    exact F2.2.2.1 (53 + i) r (by omega) (by omega) (by omega)) hch ys
                  have hbd : yseq (cN B3) 53 A3 (e - (s + 1)) (3 - (D + 1)) (s + 1) e (r + 1) m := yseq_loc (cN_lo (by decide) yy) (cN_lo (by decide) yy) _ _ _ _ _ _ (fun i j a b c d => w9 (53 + i) j (by omega) (by omega) d (by omega)) (fun k a b => cN_cong (by omega) (w11 _ (by omega))) g8
                  refine Or.inr ⟨by omega, hst, Or.inr ⟨?_, 3 - (D + 1), e, m, by omega, ?_, Nat.le_refl _, by omega, hbd, w1, w2, w3, yseq_nil _ _ _ _ _ _ _⟩⟩
                  · rw [hch _ (by omega) (by omega), cN_0, ek]; exact hkd
                  · rw [cN_8, show 1513 + 9 * s = 1505 + 9 * s + 8 by omega]; exact w8
                · refine ⟨XF_trans F1.1 (XF_trans F2.1 xx), YF_trans F1.2.1 (YF_trans F2.2.1 yy), fun x j a b d => ?_, fun j hj => ?_, fun k hk2 => ?_⟩
                  · rw [w9 x j a b (by omega) (by omega), F2.2.2.1 x j a b (by omega)]; exact F1.2.2.1 x j a b d
                  · rw [w10 j, F2.2.2.2.1 j (by omega)]; exact F1.2.2.2.1 j hj
                  · rw [w11 k (by omega), F2.2.2.2.2 k (by omega)]; exact F1.2.2.2.2 k hk2
                · rw [show n + (1 + k + 1) = (n + 1 + k) + 1 by omega, ry_step t hp hz hk e1, if_pos (by decide), go (n + 1), ry_end t2 p2 g5 x1, if_pos (by decide), show i + 1 + k + 1 = i + (1 + k + 1) by omega]
              · refine ⟨B3, ?_, Or.inr ⟨A3, 1 + k, b3, XF_trans F1.1 (XF_trans F2.1 xx), YF_trans F1.2.1 (YF_trans F2.2.1 yy), ?_, fun n => ?_⟩⟩
                · rw [e2]
                  exact (g1 zB (by unfold zB; omega)).trans x2
                · have := PG_L t2 p2; omega
                · rw [show n + (1 + k) + 1 = (n + 1 + k) + 1 by omega, ry_step t hp hz hk e1, if_pos (by decide), go (n + 1), ry_end t2 p2 g5 x1, if_neg (show ¬ ¬ (0 : Int) = 0 by decide)]
            · refine ⟨B2, ?_, Or.inr ⟨A2, 1 + k, b2, XF_trans F1.1 x2, YF_trans F1.2.1 y2, by omega, fun n => ?_⟩⟩
              · rw [e2]
                exact g1 zB (by unfold zB; omega)
              · rw [show n + (1 + k) + 1 = (n + k + 1) + 1 by omega, ry_step t hp hz hk e1, if_pos (by decide)]
                exact halt n
        · refine ⟨B1, e2, Or.inr ⟨A1, 0, b1, x1, y1, PG_L t hp, fun n => ?_⟩⟩
          rw [show n + 0 + 1 = n + 1 by omega, ry_step t hp hz hk e1, if_neg (show ¬ ¬ (0 : Int) = 0 by decide)]
