/-! YEARS: a TEST -/
def ST (r : Int) (A : AM) : Option (Int × AM) := (f_X5_isSign 60 A).bind fun x6 => if ¬ x6.1 = 0 then f_X9_readTest_106 r x6.2 else ((f_X5_isSign 62 x6.2).bind fun x7 => if ¬ x7.1 = 0 then f_X9_readTest_106 r x7.2 else ((f_X5_isSign 61 x7.2).bind fun x8 => if ¬ x8.1 = 0 then f_X9_readTest_106 r x8.2 else ((f_X5_refuse 2 x8.2).bind fun x9 => if x9.1 = 0 ∨ x9.1 = 1 then some (x9.1, x9.2) else none)))
theorem sign_both {L r w : Nat} {A B : AM} (hr : r < 60) (hw : 1420 ≤ w ∧ w + 8 < 1775) (h : TK L A B) (hF : FO A B) :
    RO L r w A B (ST (r : Int) A) (if ¬ B 0 14 = 3 then f_X11_readTest_86 (w : Int) 5 ((w + 7 : Nat) : Int) 0 B else f_X11_readTest_86 (w : Int) 5 ((w + 7 : Nat) : Int) (B 0 17) B) (fun A' B' => A' 57 r = B' 5 (w + 7) ∧ A' 58 r = B' 5 (w + 6) ∧ (0 ≤ B' 5 (w + 6) ∧ B' 5 (w + 6) ≤ 9) ∧ A' 55 r = A 55 r ∧ A' 56 r = A 56 r ∧ B' 5 (w + 1) = B 5 (w + 1) ∧ B' 5 (w + 5) = B 5 (w + 5)) := by
  have e0 := h.2.2.1.1
  have e6 : o_add (w : Int) 6 = ((w + 6 : Nat) : Int) := by rw [o_add_eq (by omega) (by omega)]; omega
  have h7 : (0 : Int) ≤ ((w + 7 : Nat) : Int) ∧ ((w + 7 : Nat) : Int) < 1775 := by omega
  have h6 : (0 : Int) ≤ ((w + 6 : Nat) : Int) ∧ ((w + 6 : Nat) : Int) < 1775 := by omega
  -- the model behind the sign
  have mo : ∀ o : Int, f_X11_readTest_86 (w : Int) 5 ((w + 7 : Nat) : Int) o B = f_X11_readTest_120 (w : Int) (if A 20 0 = 3 ∧ (A 20 4 = 60 ∨ A 20 4 = 62 ∨ A 20 4 = 61) then 1 else 0) (am_upd B 5 (w + 7) o) := by
    intro o
    have t1 : TK L A (am_upd B 5 (w + 7) o) := TK_cong h rfl rfl rfl (am_upd_cell (by decide)) (fun j _ => by rw [am_upd_cell (by decide)])
    unfold f_X11_readTest_86
    rw [if_pos h7, zlet_eq, tnc, m_isSign 60 t1, bind_s]
    dsimp only
    by_cases g1 : A 20 0 = 3 ∧ A 20 4 = 60
    · rw [if_pos g1, if_pos (by decide), if_pos ⟨g1.1, Or.inl g1.2⟩]
    rw [if_neg g1, if_neg (show ¬ ¬ (0 : Int) = 0 by decide), m_isSign 62 t1, bind_s]
    dsimp only
    by_cases g2 : A 20 0 = 3 ∧ A 20 4 = 62
    · rw [if_pos g2, if_pos (by decide), if_pos ⟨g2.1, Or.inr (Or.inl g2.2)⟩]
    rw [if_neg g2, if_neg (show ¬ ¬ (0 : Int) = 0 by decide), m_isSign 61 t1, bind_s]
    dsimp only
    by_cases g3 : A 20 0 = 3 ∧ A 20 4 = 61
    · rw [if_pos g3, if_neg (by decide), if_pos ⟨g3.1, Or.inr (Or.inr g3.2)⟩]
    rw [if_neg g3, if_pos rfl, if_neg (fun hh => by
      rcases hh.2 with q | q | q
      · exact g1 ⟨hh.1, q⟩
      · exact g2 ⟨hh.1, q⟩
      · exact g3 ⟨hh.1, q⟩)]
  rw [mo, mo]
  by_cases gs : A 20 0 = 3 ∧ (A 20 4 = 60 ∨ A 20 4 = 62 ∨ A 20 4 = 61)
  · obtain ⟨e4, _, _⟩ := h.2.2.2.2.2.2.2 (Or.inr gs.1)
    have hx : ST (r : Int) A = f_X9_readTest_106 (r : Int) A := by
      unfold ST
      rw [x_isSign, bind_s]
      dsimp only
      by_cases g1 : A 20 4 = 60
      · rw [if_pos (show A 20 0 = 3 ∧ A 20 4 = 60 from ⟨gs.1, g1⟩), if_pos (by decide)]
      rw [if_neg (show ¬ (A 20 0 = 3 ∧ A 20 4 = 60) from fun hh => g1 hh.2), if_neg (show ¬ ¬ (0 : Int) = 0 by decide), x_isSign, bind_s]
      dsimp only
      by_cases g2 : A 20 4 = 62
      · rw [if_pos (show A 20 0 = 3 ∧ A 20 4 = 62 from ⟨gs.1, g2⟩), if_pos (by decide)]
      rw [if_neg (show ¬ (A 20 0 = 3 ∧ A 20 4 = 62) from fun hh => g2 hh.2), if_neg (show ¬ ¬ (0 : Int) = 0 by decide), x_isSign, bind_s]
      dsimp only
      have g3 : A 20 4 = 61 := by omega
      rw [if_pos (show A 20 0 = 3 ∧ A 20 4 = 61 from ⟨gs.1, g3⟩), if_pos (by decide)]
    rw [hx, if_pos gs, if_neg (show ¬ ¬ B 0 14 = 3 by omega)]
    unfold f_X9_readTest_106 f_X11_readTest_120
    rw [if_pos (show (0 : Int) ≤ (r : Int) ∧ (r : Int) < 60 by omega), zlet_eq, tnc, m_must_1 (by rw [am_upd_cell (by decide)]; exact hF.2.2)]
    have t1 : TK L (am_upd A 57 r (A 20 4)) (am_upd B 5 (w + 7) (B 0 17)) := TK_cong h (am_upd_cell (by decide)) (am_upd_cell (by decide)) (am_upd_cell (by decide)) (am_upd_cell (by decide)) (fun j _ => by rw [am_upd_cell (by decide)])
    have f1 : FO (am_upd A 57 r (A 20 4)) (am_upd B 5 (w + 7) (B 0 17)) := FO_cong hF (am_upd_cell (by decide)) (by rw [am_upd_cell (by decide)])
    obtain ⟨A2, B2, x1, x2, c2, m2, t2, v2⟩ := TK_adv t1
    have f2 := FO_F f1 c2 m2
    rw [x1, x2, bind_s, bind_s, e6]
    have hadv : A 20 11 ≤ A2 20 11 := by
      have := v2.1
      rw [am_upd_cell (show 20 ≠ 57 by decide)] at this
      exact this
    have R1 : RF r w A B (am_upd A 57 r (A 20 4)) (am_upd B 5 (w + 7) (B 0 17)) := RF_trans (RF_a A B _ (by omega)) (RF_b _ _ _ (by omega))
    have R2 := RF_trans R1 (RF_C (r := r) (w := w) c2 m2)
    rcases nb_count 0 9 t2 f2 with ⟨v, A3, B3, g1, g2, e3, e5, t3, f3, c3, m3, v3⟩ | ⟨A3, B3, e3, e5, p1, p2, p3, _⟩
    · rw [e3, e5, bind_s, bind_s]
      dsimp only
      rw [if_pos h6, zlet_eq, zlet_eq, tnc, am_upd_self, if_neg (by omega)]
      refine Or.inl ⟨_, _, rfl, rfl, TK_cong t3 (am_upd_cell (by decide)) (am_upd_cell (by decide)) (am_upd_cell (by decide)) (am_upd_cell (by decide)) (fun j _ => by rw [am_upd_cell (by decide)]), FO_cong f3 (am_upd_cell (by decide)) (by rw [am_upd_cell (by decide)]), ?_, RF_trans R2 (RF_trans (RF_C c3 m3) (RF_trans (RF_a _ _ _ (by omega)) (RF_b _ _ _ (by omega)))), ?_, ?_, ?_, ?_, ?_, ?_, ?_⟩
      · rw [am_upd_cell (by decide)]; have := v3.1; omega
      · rw [am_upd_cell (by decide), c3.1 57 (by decide), c2.1 57 (by decide), am_upd_self, am_upd_ne (by omega), m3.1 5 (by decide), m2.1 5 (by decide), am_upd_self, e4]
      · rw [am_upd_self, am_upd_self]
      · rw [am_upd_self]; exact ⟨g1, g2⟩
      · rw [am_upd_cell (by decide), c3.1 55 (by decide), c2.1 55 (by decide), am_upd_cell (by decide)]
      · rw [am_upd_cell (by decide), c3.1 56 (by decide), c2.1 56 (by decide), am_upd_cell (by decide)]
      · rw [am_upd_ne (by omega), m3.1 5 (by decide), m2.1 5 (by decide), am_upd_ne (by omega)]
      · rw [am_upd_ne (by omega), m3.1 5 (by decide), m2.1 5 (by decide), am_upd_ne (by omega)]
    · obtain ⟨y1, y2⟩ := RF_XY hw.1 R2
      rw [e3, e5, bind_s, bind_s]
      dsimp only
      rw [if_pos h6, zlet_eq, zlet_eq, tnc, am_upd_self, if_pos rfl]
      refine Or.inr ⟨_, _, rfl, rfl, ?_, XF_trans y1 (XF_trans p2 (XF_row _ _ (by omega))), YF_trans y2 (YF_trans p3 (YF_c _ (by omega)))⟩
      unfold FB at p1 ⊢
      rw [am_upd_cell (show 20 ≠ 58 by decide), am_upd_cell (show 0 ≠ 5 by decide)]
      exact p1
  · have hx : ST (r : Int) A = (f_X5_refuse 2 A).bind fun x9 => if x9.1 = 0 ∨ x9.1 = 1 then some (x9.1, x9.2) else none := by
      unfold ST
      rw [x_isSign, bind_s]
      dsimp only
      rw [if_neg (show ¬ (A 20 0 = 3 ∧ A 20 4 = 60) from fun hh => gs ⟨hh.1, Or.inl hh.2⟩), if_neg (show ¬ ¬ (0 : Int) = 0 by decide), x_isSign, bind_s]
      dsimp only
      rw [if_neg (show ¬ (A 20 0 = 3 ∧ A 20 4 = 62) from fun hh => gs ⟨hh.1, Or.inr (Or.inl hh.2)⟩), if_neg (show ¬ ¬ (0 : Int) = 0 by decide), x_isSign, bind_s]
      dsimp only
      rw [if_neg (show ¬ (A 20 0 = 3 ∧ A 20 4 = 61) from fun hh => gs ⟨hh.1, Or.inr (Or.inr hh.2)⟩), if_neg (show ¬ ¬ (0 : Int) = 0 by decide)]
    rw [hx, if_neg gs]
    have all : ∀ o : Int, RO L r w A B ((f_X5_refuse 2 A).bind fun x9 => if x9.1 = 0 ∨ x9.1 = 1 then some (x9.1, x9.2) else none) (f_X11_readTest_120 (w : Int) 0 (am_upd B 5 (w + 7) o)) (fun A' B' => A' 57 r = B' 5 (w + 7) ∧ A' 58 r = B' 5 (w + 6) ∧ (0 ≤ B' 5 (w + 6) ∧ B' 5 (w + 6) ≤ 9) ∧ A' 55 r = A 55 r ∧ A' 56 r = A 56 r ∧ B' 5 (w + 1) = B 5 (w + 1) ∧ B' 5 (w + 5) = B 5 (w + 5)) := by
      intro o
      have t1 : TK L A (am_upd B 5 (w + 7) o) := TK_cong h rfl rfl rfl (am_upd_cell (by decide)) (fun j _ => by rw [am_upd_cell (by decide)])
      have f1 : FO A (am_upd B 5 (w + 7) o) := FO_cong hF rfl (by rw [am_upd_cell (by decide)])
      obtain ⟨A', B', e1, e2, c1, c2, c3, _⟩ := bad_2 t1 f1
      unfold f_X11_readTest_120
      rw [m_must_0 f1.2.2, e1, e2, bind_s, bind_s]
      dsimp only
      rw [if_pos (Or.inl rfl), m_count_bad _ _ c1.1, bind_s, e6]
      dsimp only
      rw [if_pos h6, zlet_eq, tnc]
      refine Or.inr ⟨_, _, rfl, rfl, ?_, c2, YF_trans (YF_c _ (by omega)) (YF_trans c3 (YF_c _ (by omega)))⟩
      unfold FB at c1 ⊢
      rw [am_upd_cell (show 0 ≠ 5 by decide)]
      exact c1
    by_cases g3 : B 0 14 = 3
    · rw [if_neg (fun h => h g3)]; exact all _
    · rw [if_pos g3]; exact all _
theorem testI_18 : testI 18 = 0 := rfl
theorem testI_10 : testI 10 = 1 := rfl
theorem testI_19 : testI 19 = 2 := rfl
theorem rest_test {L r w : Nat} {A B : AM} (hr : r < 60) (hw : 1420 ≤ w ∧ w + 8 < 1775) (h : TK L A B) (hF : FO A B) (hH : HN A B) :
    RO L r w A B (f_X9_readTest (r : Int) A) (f_X11_readTest (w : Int) B) (fun A' B' => (A' 56 r = B' 5 (w + 1) ∧ 0 ≤ B' 5 (w + 1) ∧ B' 5 (w + 1) < B 5 2) ∧ (0 ≤ B' 5 (w + 5) ∧ B' 5 (w + 5) ≤ 2) ∧ A' 55 r = ytest (B' 5 (w + 5)) ∧ (B' 5 (w + 5) = 1 → A' 57 r = B' 5 (w + 7) ∧ A' 58 r = B' 5 (w + 6) ∧ 0 ≤ B' 5 (w + 6) ∧ B' 5 (w + 6) ≤ 9)) := by
  have e5 : o_add (w : Int) 5 = ((w + 5 : Nat) : Int) := by rw [o_add_eq (by omega) (by omega)]; omega
  have e7 : o_add (w : Int) 7 = ((w + 7 : Nat) : Int) := by rw [o_add_eq (by omega) (by omega)]; omega
  have e1 : o_add (w : Int) 1 = ((w + 1 : Nat) : Int) := o_succ (by omega)
  have h5 : (0 : Int) ≤ ((w + 5 : Nat) : Int) ∧ ((w + 5 : Nat) : Int) < 1775 := by omega
  have h1 : (0 : Int) ≤ ((w + 1 : Nat) : Int) ∧ ((w + 1 : Nat) : Int) < 1775 := by omega
  have hb := hF.2.2
  unfold f_X11_readTest
  rw [m_testWord h, bind_s]
  dsimp only
  by_cases gk : A 20 3 = 18 ∨ A 20 3 = 10 ∨ A 20 3 = 19
  · -- the WORD of a TEST: t in the model
    obtain ⟨t, ht, hty, ht0, ht10⟩ : ∃ t : Int, testI (A 20 3) = t ∧ ytest t = A 20 3 ∧ (0 ≤ t ∧ t ≤ 2) ∧ (A 20 3 = 10 ↔ t = 1) := by
      rcases gk with g | g | g
      · rw [g]; exact ⟨0, rfl, rfl, by decide, by decide⟩
      · rw [g]; exact ⟨1, rfl, rfl, by decide, by decide⟩
      · rw [g]; exact ⟨2, rfl, rfl, by decide, by decide⟩
    have hx : f_X9_readTest (r : Int) A = f_X9_readTest_33 (r : Int) (A 20 3) A := by
      unfold f_X9_readTest
      rcases gk with g | g | g
      · rw [if_pos g]
      · rw [if_neg (by omega), if_pos g]
      · rw [if_neg (by omega), if_neg (by omega), if_pos g]
    rw [hx, ht, if_neg (by omega)]
    unfold f_X9_readTest_33 f_X11_readTest_15
    rw [if_pos (show (0 : Int) ≤ (r : Int) ∧ (r : Int) < 60 by omega), zlet_eq, tnc, m_must_1 hb]
    have t1 : TK L (am_upd A 55 r (A 20 3)) B := TK_cong h (am_upd_cell (by decide)) (am_upd_cell (by decide)) (am_upd_cell (by decide)) rfl (fun j _ => rfl)
    have f1 : FO (am_upd A 55 r (A 20 3)) B := FO_cong hF (am_upd_cell (by decide)) rfl
    obtain ⟨A2, B2, x1, x2, c2, m2, t2, v2⟩ := TK_adv t1
    have f2 := FO_F f1 c2 m2
    have hadv : A 20 11 ≤ A2 20 11 := by
      have := v2.1
      rw [am_upd_cell (show 20 ≠ 55 by decide)] at this
      exact this
    have R2 : RF r w A B A2 (am_upd B2 5 (w + 5) t) := RF_trans (RF_trans (RF_a A B _ (by omega)) (RF_C c2 m2)) (RF_b _ _ _ (by omega))
    obtain ⟨y1, y2⟩ := RF_XY hw.1 R2
    rw [x1, x2, bind_s, bind_s, e5, if_pos h5, zlet_eq, tnc]
    have t3 : TK L A2 (am_upd B2 5 (w + 5) t) := TK_cong t2 rfl rfl rfl (am_upd_cell (by decide)) (fun j _ => by rw [am_upd_cell (by decide)])
    have f3 : FO A2 (am_upd B2 5 (w + 5) t) := FO_cong f2 rfl (by rw [am_upd_cell (by decide)])
    have H3 := HN_XY hH y1 y2
    rw [if_pos (show am_upd B2 5 (w + 5) t 0 12 ≤ 0 by have := f3.2.2; omega), e1]
    obtain ⟨v, q1, q2, q3, q4⟩ := find_c t3 H3
    rw [q1, bind_s]
    dsimp only
    have k2 : am_upd B2 5 (w + 5) t 5 2 = B 5 2 := y2.2.2.1 2 (by decide)
    rcases thing_core (sort := 2) hr t3 f3 q2 q4 with ⟨k, A4, B4, rfl, x3, x4, t4, f4, c4, m4, v4⟩ | ⟨u, A4, B4, x3, x4, p1, p2, p3⟩
    · replace x4 : f_X11_readTold 0 2 (am_upd B2 5 (w + 5) t) = some ((k : Int), B4) := x4
      rw [x3, x4, bind_s, bind_s]
      dsimp only
      rw [if_pos (show ¬ (1 : Int) = 0 by decide), if_pos h1, zlet_eq, tnc]
      rw [if_neg (by omega), k2] at q3
      have t5 : TK L A4 (am_upd B4 5 (w + 1) (k : Int)) := TK_cong t4 rfl rfl rfl (am_upd_cell (by decide)) (fun j _ => by rw [am_upd_cell (by decide)])
      have f5 : FO A4 (am_upd B4 5 (w + 1) (k : Int)) := FO_cong f4 rfl (by rw [am_upd_cell (by decide)])
      have R5 : RF r w A B A4 (am_upd B4 5 (w + 1) (k : Int)) := RF_trans R2 (RF_trans (RF_a A2 _ (k : Int) (x := 56) (by omega)) (RF_trans (RF_C c4 m4) (RF_b _ _ _ (by omega))))
      have a55 : A4 55 r = A 20 3 := by rw [c4.1 55 (by decide), am_upd_cell (by decide), c2.1 55 (by decide), am_upd_self]
      have a56 : A4 56 r = (k : Int) := by rw [c4.1 56 (by decide), am_upd_self]
      have b1 : am_upd B4 5 (w + 1) (k : Int) 5 (w + 1) = (k : Int) := am_upd_self _ _ _ _
      have b5 : am_upd B4 5 (w + 1) (k : Int) 5 (w + 5) = t := by rw [am_upd_ne (by omega), m4.1 5 (by decide), am_upd_self]
      have hadv5 : A 20 11 ≤ A4 20 11 := by have := v4.1; omega
      rw [if_neg (show ¬ 0 < am_upd B4 5 (w + 1) (k : Int) 0 12 by have := f5.2.2; omega)]
      by_cases g1 : t = 1
      · rw [if_pos (ht10.mpr g1), if_pos g1, e7]
        have hs := sign_both hr hw t5 f5
        generalize hB5 : am_upd B4 5 (w + 1) (k : Int) = B5 at *
        rcases hs with ⟨A6, B6, z1, z2, t6, f6, l6, R6, G1, G2, G3, G4, G5, G6, G7⟩ | ⟨A6, B6, z1, z2, p1, p2, p3⟩
        · refine Or.inl ⟨A6, B6, z1, z2, t6, f6, by omega, RF_trans R5 R6, ⟨?_, ?_, ?_⟩, ⟨?_, ?_⟩, ?_, fun _ => ⟨G1, G2, G3.1, G3.2⟩⟩
          · rw [G5, G6, a56, b1]
          · rw [G6, b1]; omega
          · rw [G6, b1]; omega
          · rw [G7, b5]; omega
          · rw [G7, b5]; omega
          · rw [G4, G7, a55, b5, hty]
        · obtain ⟨w1, w2⟩ := RF_XY hw.1 R5
          exact Or.inr ⟨A6, B6, z1, z2, p1, XF_trans w1 p2, YF_trans w2 p3⟩
      · rw [if_neg (fun hh => g1 (ht10.mp hh)), if_neg g1]
        refine Or.inl ⟨A4, _, rfl, rfl, t5, f5, hadv5, R5, ⟨?_, ?_, ?_⟩, ⟨?_, ?_⟩, ?_, fun hh => ?_⟩
        · rw [a56, b1]
        · rw [b1]; omega
        · rw [b1]; omega
        · rw [b5]; omega
        · rw [b5]; omega
        · rw [a55, b5, hty]
        · rw [b5] at hh; exact absurd hh g1
    · replace x4 : f_X11_readTold 0 2 (am_upd B2 5 (w + 5) t) = some (u, B4) := x4
      have p0 := p1.1
      rw [x3, x4, bind_s, bind_s]
      dsimp only
      rw [if_neg (show ¬ ¬ (0 : Int) = 0 by decide), if_pos h1, zlet_eq, tnc, if_pos (show 0 < am_upd B4 5 (w + 1) u 0 12 by rw [am_upd_cell (by decide)]; exact p0)]
      refine Or.inr ⟨A4, _, rfl, rfl, ?_, XF_trans y1 p2, YF_trans y2 (YF_trans p3 (YF_c _ (by omega)))⟩
      unfold FB at p1 ⊢
      rw [am_upd_cell (show 0 ≠ 5 by decide)]
      exact p1
  · have ht : testI (A 20 3) = -1 := by
      unfold testI
      rw [if_neg (fun hh => gk (Or.inl hh)), if_neg (fun hh => gk (Or.inr (Or.inl hh))), if_neg (fun hh => gk (Or.inr (Or.inr hh)))]
    obtain ⟨A', B', x1, x2, c1, c2, c3, _⟩ := bad_2 h hF
    have p0 := c1.1
    unfold f_X9_readTest
    rw [if_neg (fun hh => gk (Or.inl hh)), if_neg (fun hh => gk (Or.inr (Or.inl hh))), if_neg (fun hh => gk (Or.inr (Or.inr hh))), x1, bind_s]
    dsimp only
    rw [if_pos (Or.inl rfl), ht, if_pos (by decide)]
    unfold f_X11_readTest_15
    rw [m_must_0 hb, x2, bind_s, e5, if_pos h5, zlet_eq, tnc, if_neg (show ¬ am_upd B' 5 (w + 5) (-1) 0 12 ≤ 0 by rw [am_upd_cell (by decide)]; omega)]
    refine Or.inr ⟨A', _, rfl, rfl, ?_, c2, YF_trans c3 (YF_c _ (by omega))⟩
    unfold FB at c1 ⊢
    rw [am_upd_cell (show 0 ≠ 5 by decide)]
    exact c1
