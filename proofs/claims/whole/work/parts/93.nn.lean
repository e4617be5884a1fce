/-! HOUSE: a NAME told anew -/
theorem readNew26_bad {s n : Int} {B : AM} (h : 0 < B 0 12) : f_X11_readNew_26 s n B = some (0, B) := by
  unfold f_X11_readNew_26
  rw [if_neg (by omega)]
theorem readNew93_bad {s n : Int} {B : AM} (h : 0 < B 0 12) : f_X11_readNew_93 s n B = some (0, B) := by
  unfold f_X11_readNew_93
  rw [if_neg (by omega)]
theorem nn_both {L sort n : Nat} {A B : AM} (hs : sort < 3) (hn : nfr sort + n < 24) (h : TK L A B) (hF : FO A B) (hH : HP A B) : ∃ A1, f_X5_advance A = some A1 ∧ CF A A1 ∧
    ((∃ w A' B', f_X2_takeNewName ((nfr sort + n : Nat) : Int) A1 = some (1, A') ∧ f_X11_readNew_26 (sort : Int) (n : Int) B = some ((n : Int), B') ∧ TK L A' B' ∧ FO A' B' ∧ Adv A A' ∧ NmF (nfr sort + n) w A B A' B') ∨
     (∃ A' B' v, f_X2_takeNewName ((nfr sort + n : Nat) : Int) A1 = some (0, A') ∧ f_X11_readNew_26 (sort : Int) (n : Int) B = some (v, B') ∧ FB A' B' ∧ XF A A' ∧ YF B B')) := by
  have hF2 := hF.2.2
  obtain ⟨A1, B1, e1, e2, c1, m1, t1, v1⟩ := TK_adv h
  have hF1 := FO_F hF c1 m1
  have hH1 := HP_F hH c1 m1
  have hb := hF1.2.2
  refine ⟨A1, e1, c1, ?_⟩
  unfold f_X11_readNew_26
  rw [if_pos (by omega), e2, bind_s]
  unfold f_X2_takeNewName
  by_cases g : nameP A1
  · rw [x_isName_t g, bind_s, m_isName_t t1 g, bind_s]
    dsimp only
    rw [if_pos (show ¬ (1 : Int) = 0 by decide), if_pos (show ¬ (1 : Int) = 0 by decide), x_isTaken, bind_s]
    dsimp only
    unfold f_X11_readNew_50
    rw [if_neg (show ¬ ¬ B1 0 12 = 0 from fun h => h hb), m_taken t1 hH1 g (f_X11_readNew_84 (sort : Int) (n : Int)) (f_X11_readNew_93 (sort : Int) (n : Int))]
    cases hT : tkB A1 (A1 20 2)
    · -- new
      left
      simp only [Bool.false_eq_true, if_false, not_true_eq_false]
      rw [if_pos (by omega), if_pos (by omega), tnc, zlet_eq]
      unfold f_X11_readNew_93
      have ha : o_add (o_add 96 (nfr sort : Int)) (n : Int) = ((96 + (nfr sort + n) : Nat) : Int) := by
        rw [o_add_eq (x := 96) (by omega) (by omega), o_add_eq (by omega) (by omega)]; omega
      rw [if_pos (by omega), m_namesFrom hs, bind_s]
      dsimp only
      rw [ha, if_pos (by omega), tnc, zlet_eq]
      have ew := ((t1.2.2.2.2.2.1 g.1).2.2 g.2.2).1
      rw [← ew]
      have t2 : TK L (am_upd A1 43 (nfr sort + n) (A1 20 2)) (am_upd B1 8 (96 + (nfr sort + n)) (A1 20 2)) := TK_cong t1 (am_upd_cell (by decide)) (am_upd_cell (by decide)) (am_upd_cell (by decide)) (am_upd_cell (by decide)) (fun j _ => by rw [am_upd_cell (by decide)])
      obtain ⟨A2, B2, e3, e4, c2, m2, t3, v2⟩ := TK_adv t2
      rw [e3, e4, bind_s, bind_s]
      refine ⟨A1 20 2, A2, B2, rfl, rfl, t3, ?_, ?_, ⟨fun x hx => ?_, fun j hj => ?_⟩, ⟨fun x hx => ?_, fun j hj => ?_⟩⟩
      · refine ⟨?_, ?_, ?_⟩
        · rw [c2.2 5 (by decide), am_upd_cell (by decide)]; exact hF1.1
        · rw [c2.2 6 (by decide), am_upd_cell (by decide)]; exact hF1.2.1
        · rw [m2.2 12 (by decide), am_upd_cell (by decide)]; exact hb
      · refine Adv_trans v1 ?_
        unfold Adv at v2 ⊢
        rw [am_upd_cell (show 20 ≠ 43 by decide)] at v2
        exact v2
      · rw [c2.1 x hx]
        by_cases h43 : x = 43
        · subst h43
          funext j
          rw [am_upd_eq, am_upd_eq, c1.1 43 (by decide)]
        · rw [am_upd_cell h43, am_upd_cell h43, c1.1 x hx]
      · rw [c2.2 j hj, am_upd_cell (by decide), am_upd_cell (by decide), c1.2 j hj]
      · rw [m2.1 x hx]
        by_cases h43 : x = 8
        · subst h43
          funext j
          rw [am_upd_eq, am_upd_eq, m1.1 8 (by decide)]
        · rw [am_upd_cell h43, am_upd_cell h43, m1.1 x hx]
      · rw [m2.2 j hj, am_upd_cell (by decide), am_upd_cell (by decide), m1.2 j hj]
    · -- taken
      right
      simp only [if_true, i10, not_false_eq_true]
      obtain ⟨A', B', e3, e4, c2, c3, c4, _⟩ := bad_at 3 (by decide) t1 hF1 (by have := g.1; omega)
      refine ⟨A', B', 0, ?_, ?_, c2, XF_trans (CF_XF c1) c3, YF_trans (MF_YF m1) c4⟩
      · unfold f_X2_takeNewName_30
        rw [e3, bind_s]
        dsimp only
        rw [if_pos (Or.inl rfl)]
      · unfold f_X11_readNew_84
        rw [e4, bind_s]
        exact readNew93_bad c2.1
  · right
    rw [x_isName_f g, bind_s, m_isName_f t1 g, bind_s]
    dsimp only
    rw [if_neg (show ¬ ¬ (0 : Int) = 0 by decide), if_neg (show ¬ ¬ (0 : Int) = 0 by decide)]
    obtain ⟨A', B', e3, e4, c2, c3, c4, _⟩ := bad_2 t1 hF1
    rw [e3, e4, bind_s, bind_s]
    refine ⟨A', B', 0, ?_, ?_, c2, XF_trans (CF_XF c1) c3, YF_trans (MF_YF m1) c4⟩
    · dsimp only
      rw [if_pos (Or.inl rfl)]
    · unfold f_X11_readNew_50
      rw [if_pos (by have := c2.1; omega)]
      exact readNew93_bad c2.1
/-! once there is a FAULT -/
theorem any_isSign (v : Int) (B : AM) : ∃ u : Int, f_X11_isSign v B = some (u, B) := by
  unfold f_X11_isSign
  by_cases h1 : B 0 14 = 3
  · rw [if_neg (fun h => h h1)]
    by_cases h2 : B 0 17 = v
    · rw [if_neg (fun h => h h2)]; exact ⟨1, rfl⟩
    · rw [if_pos h2]; exact ⟨0, rfl⟩
  · rw [if_pos h1]; exact ⟨0, rfl⟩
/-- the ; behind a PART, a STEP in the model -/
def semiM (B : AM) : Option AM := (f_X11_isSign 59 B).bind fun x2 => f_X11_must x2.1 x2.2
theorem semi_bad {B : AM} (h : 0 < B 0 12) : semiM B = some B := by
  unfold semiM
  obtain ⟨u, e⟩ := any_isSign 59 B
  rw [e, bind_s]
  exact m_must_bad _ h
/-- what comes of a PART: class x, model m -/
def PO (L : Nat) (A B : AM) (x : Option (Int × AM)) (m : Option AM) : Prop :=
  (∃ A' B', x = some (1, A') ∧ m = some B' ∧ TK L A' B' ∧ FO A' B' ∧ HP A' B' ∧ XF A A' ∧ YF B B' ∧ Adv A A') ∨ (∃ A' B', x = some (0, A') ∧ m = some B' ∧ FB A' B' ∧ XF A A' ∧ YF B B')
theorem setB_tt (n : Nat) : ∀ i, i < n → (setB tt n).testBit i = true := fun i hi => by rw [setB_bit]; simp [tt, hi]
theorem HQ_room {A A5 : AM} {c c2 nm nm2 : Nat → Int} {tl w : Int} {n : Nat} (hH : HQ A c nm tl) (hn : c 0 = (n : Int)) (h8 : n < 8)
    (e34 : ∀ j, j ≠ 2 → A5 34 j = A 34 j) (e2 : A5 34 2 = ((n + 1 : Nat) : Int)) (ex : ∀ x, 35 ≤ x → x ≤ 42 → A5 x = A x) (e43 : ∀ i, A5 43 i = if i = n then w else A 43 i)
    (hc0 : c2 0 = ((n + 1 : Nat) : Int)) (hc : ∀ k, k ≠ 0 → c2 k = c k) (hnm : ∀ i, nm2 i = if i = n then w else nm i) : HQ A5 c2 nm2 tl := by
  obtain ⟨⟨⟨a1, a2, a3⟩, b, d⟩, ⟨f1, f2, f3, f4, f5, f6⟩, ⟨g1, g2, g3⟩, hw, hk, hz, ⟨s1, s2⟩, hN⟩ := hH
  have k1 := hc 1 (by decide)
  have k2 := hc 2 (by decide)
  refine ⟨⟨⟨by rw [e2, hc0], by omega, by omega⟩, by rw [k1, e34 3 (by decide)]; exact b, by rw [k2, e34 4 (by decide)]; exact d⟩, ⟨by rw [e34 5 (by decide)]; exact f1, by rw [hc 5 (by decide)]; exact f2, by rw [e34 6 (by decide)]; exact f3, by rw [hc 6 (by decide)]; exact f4, by rw [e34 19 (by decide)]; exact f5, by rw [hc 83 (by decide)]; exact f6⟩, ⟨by rw [e34 0 (by decide), hc 3 (by decide)]; exact g1, by rw [e34 1 (by decide), hc 4 (by decide)]; exact g2, by rw [e34 0 (by decide), e34 1 (by decide)]; exact g3⟩, fun x hx => ?_, fun x hx => ?_, fun x hx => ?_, ?_, fun i hi => ?_⟩
  · rw [k1] at hx
    obtain ⟨p1, p2, p3, p4, p5⟩ := hw x hx
    rw [ex 35 (by decide) (by decide), ex 36 (by decide) (by decide), ex 37 (by decide) (by decide), hc (7 + x) (by omega), hc (17 + x) (by omega), hc (27 + x) (by omega), hc (37 + x) (by omega), hc0]
    exact ⟨p1, by omega, by omega, p4, p5⟩
  · rw [k2] at hx
    obtain ⟨p1, p2, p3, p4, p5⟩ := hk x hx
    rw [ex 38 (by decide) (by decide), ex 39 (by decide) (by decide), ex 40 (by decide) (by decide), ex 41 (by decide) (by decide), ex 42 (by decide) (by decide), hc (47 + x) (by omega), hc (53 + x) (by omega), hc (59 + x) (by omega), hc (65 + x) (by omega), hc0]
    exact ⟨p1, by omega, by omega, p4, p5⟩
  · rw [hc (71 + x) (by omega), hc (77 + x) (by omega)]; exact hz x hx
  · rw [e34 7 (by decide), e34 8 (by decide), k1, k2]; exact ⟨s1, s2⟩
  · rw [e43 i, hnm i]
    have hu : usedN c2 i ↔ (usedN c i ∨ i = n) := by
      unfold usedN
      rw [hc0, k1, k2, hn]
      omega
    by_cases hi2 : i = n
    · rw [if_pos hi2, if_pos hi2]
      exact ⟨fun _ => rfl, fun h => absurd (hu.mpr (Or.inr hi2)) h⟩
    · rw [if_neg hi2, if_neg hi2]
      exact ⟨fun h => (hN i hi).1 ((hu.mp h).resolve_right hi2), fun h => (hN i hi).2 (fun h2 => h (hu.mpr (Or.inl h2)))⟩
theorem HQ_wire {A A5 : AM} {c c2 nm nm2 : Nat → Int} {tl w one two sl : Int} {n : Nat} (hH : HQ A c nm tl) (hn : c 1 = (n : Int)) (h10 : n < 10) (h1 : 0 ≤ one ∧ one < c 0) (h2 : 0 ≤ two ∧ two < c 0) (h3 : 0 ≤ sl ∧ sl ≤ 9)
    (e34 : ∀ j, j ≠ 3 → j ≠ 7 → j ≠ 19 → A5 34 j = A 34 j) (e3 : A5 34 3 = ((n + 1 : Nat) : Int)) (e7 : A5 34 7 = o_or (A 34 7) (o_shl 1 (n : Int))) (e19 : A5 34 19 = 0)
    (e35 : ∀ i, A5 35 i = if i = n then one else A 35 i) (e36 : ∀ i, A5 36 i = if i = n then two else A 36 i) (e37 : ∀ i, A5 37 i = if i = n then sl else A 37 i) (ex : ∀ x, 38 ≤ x → x ≤ 42 → A5 x = A x) (e43 : ∀ i, A5 43 i = if i = 8 + n then w else A 43 i)
    (hc1 : c2 1 = ((n + 1 : Nat) : Int)) (hc7 : c2 (7 + n) = one) (hc17 : c2 (17 + n) = two) (hc27 : c2 (27 + n) = sl) (hc37 : c2 (37 + n) = 1) (hc : ∀ k, k ≠ 1 → k ≠ 7 + n → k ≠ 17 + n → k ≠ 27 + n → k ≠ 37 + n → c2 k = c k) (hnm : ∀ i, nm2 i = if i = 8 + n then w else nm i) : HQ A5 c2 nm2 tl := by
  obtain ⟨⟨a, ⟨b1, b2, b3⟩, d⟩, ⟨f1, f2, f3, f4, f5, f6⟩, ⟨g1, g2, g3⟩, hw, hk, hz, ⟨s1, s2⟩, hN⟩ := hH
  have k0 := hc 0 (by decide) (by omega) (by omega) (by omega) (by omega)
  have k2 := hc 2 (by decide) (by omega) (by omega) (by omega) (by omega)
  refine ⟨⟨by rw [k0, e34 2 (by decide) (by decide) (by decide)]; exact a, ⟨by rw [e3, hc1], by omega, by omega⟩, by rw [k2, e34 4 (by decide) (by decide) (by decide)]; exact d⟩, ⟨by rw [e34 5 (by decide) (by decide) (by decide)]; exact f1, by rw [hc 5 (by decide) (by omega) (by omega) (by omega) (by omega)]; exact f2, by rw [e34 6 (by decide) (by decide) (by decide)]; exact f3, by rw [hc 6 (by decide) (by omega) (by omega) (by omega) (by omega)]; exact f4, e19, by rw [hc 83 (by decide) (by omega) (by omega) (by omega) (by omega)]; exact f6⟩, ⟨by rw [e34 0 (by decide) (by decide) (by decide), hc 3 (by decide) (by omega) (by omega) (by omega) (by omega)]; exact g1, by rw [e34 1 (by decide) (by decide) (by decide), hc 4 (by decide) (by omega) (by omega) (by omega) (by omega)]; exact g2, by rw [e34 0 (by decide) (by decide) (by decide), e34 1 (by decide) (by decide) (by decide)]; exact g3⟩, fun x hx => ?_, fun x hx => ?_, fun x hx => ?_, ⟨?_, ?_⟩, fun i hi => ?_⟩
  · rw [hc1] at hx
    rw [e35 x, e36 x, e37 x, k0]
    by_cases e : x = n
    · subst e
      rw [if_pos rfl, if_pos rfl, if_pos rfl, hc7, hc17, hc27, hc37]
      exact ⟨⟨rfl, rfl, rfl⟩, h1, h2, h3, rfl⟩
    · rw [if_neg e, if_neg e, if_neg e, hc (7 + x) (by omega) (by omega) (by omega) (by omega) (by omega), hc (17 + x) (by omega) (by omega) (by omega) (by omega) (by omega), hc (27 + x) (by omega) (by omega) (by omega) (by omega) (by omega), hc (37 + x) (by omega) (by omega) (by omega) (by omega) (by omega)]
      exact hw x (by omega)
  · rw [k2] at hx
    rw [ex 38 (by decide) (by decide), ex 39 (by decide) (by decide), ex 40 (by decide) (by decide), ex 41 (by decide) (by decide), ex 42 (by decide) (by decide), hc (47 + x) (by omega) (by omega) (by omega) (by omega) (by omega), hc (53 + x) (by omega) (by omega) (by omega) (by omega) (by omega), hc (59 + x) (by omega) (by omega) (by omega) (by omega) (by omega), hc (65 + x) (by omega) (by omega) (by omega) (by omega) (by omega), k0]
    exact hk x hx
  · rw [hc (71 + x) (by omega) (by omega) (by omega) (by omega) (by omega), hc (77 + x) (by omega) (by omega) (by omega) (by omega) (by omega)]; exact hz x hx
  · rw [e7, s1, hn, hc1, tnc, tnc]; exact o_or_set1 (by omega) rfl
  · rw [e34 8 (by decide) (by decide) (by decide), k2]; exact s2
  · rw [e43 i, hnm i]
    have hu : usedN c2 i ↔ (usedN c i ∨ i = 8 + n) := by
      unfold usedN
      rw [hc1, k0, k2, hn]
      omega
    by_cases hi2 : i = 8 + n
    · rw [if_pos hi2, if_pos hi2]
      exact ⟨fun _ => rfl, fun h => absurd (hu.mpr (Or.inr hi2)) h⟩
    · rw [if_neg hi2, if_neg hi2]
      exact ⟨fun h => (hN i hi).1 ((hu.mp h).resolve_right hi2), fun h => (hN i hi).2 (fun h2 => h (hu.mpr (Or.inl h2)))⟩
theorem HQ_couple {A A5 : AM} {c c2 nm nm2 : Nat → Int} {tl w one two lo : Int} {n : Nat} (hH : HQ A c nm tl) (hn : c 2 = (n : Int)) (h6 : n < 6) (h1 : 0 ≤ one ∧ one < c 0) (h2 : 0 ≤ two ∧ two < c 0) (h3 : 1 ≤ lo ∧ lo ≤ 9)
    (e34 : ∀ j, j ≠ 4 → j ≠ 8 → A5 34 j = A 34 j) (e4 : A5 34 4 = ((n + 1 : Nat) : Int)) (e8 : A5 34 8 = o_or (A 34 8) (o_shl 1 (n : Int)))
    (e38 : ∀ i, A5 38 i = if i = n then one else A 38 i) (e39 : ∀ i, A5 39 i = if i = n then two else A 39 i) (e40 : ∀ i, A5 40 i = if i = n then lo else A 40 i) (e41 : ∀ i, A5 41 i = if i = n then 0 else A 41 i) (e42 : ∀ i, A5 42 i = if i = n then 0 else A 42 i) (ex : ∀ x, 35 ≤ x → x ≤ 37 → A5 x = A x) (e43 : ∀ i, A5 43 i = if i = 18 + n then w else A 43 i)
    (hc2 : c2 2 = ((n + 1 : Nat) : Int)) (hc47 : c2 (47 + n) = one) (hc53 : c2 (53 + n) = two) (hc59 : c2 (59 + n) = lo) (hc65 : c2 (65 + n) = 1) (hc : ∀ k, k ≠ 2 → k ≠ 47 + n → k ≠ 53 + n → k ≠ 59 + n → k ≠ 65 + n → c2 k = c k) (hnm : ∀ i, nm2 i = if i = 18 + n then w else nm i) : HQ A5 c2 nm2 tl := by
  obtain ⟨⟨a, b, ⟨d1, d2, d3⟩⟩, ⟨f1, f2, f3, f4, f5, f6⟩, ⟨g1, g2, g3⟩, hw, hk, hz, ⟨s1, s2⟩, hN⟩ := hH
  have k0 := hc 0 (by decide) (by omega) (by omega) (by omega) (by omega)
  have k1 := hc 1 (by decide) (by omega) (by omega) (by omega) (by omega)
  refine ⟨⟨by rw [k0, e34 2 (by decide) (by decide)]; exact a, by rw [k1, e34 3 (by decide) (by decide)]; exact b, ⟨by rw [e4, hc2], by omega, by omega⟩⟩, ⟨by rw [e34 5 (by decide) (by decide)]; exact f1, by rw [hc 5 (by decide) (by omega) (by omega) (by omega) (by omega)]; exact f2, by rw [e34 6 (by decide) (by decide)]; exact f3, by rw [hc 6 (by decide) (by omega) (by omega) (by omega) (by omega)]; exact f4, by rw [e34 19 (by decide) (by decide)]; exact f5, by rw [hc 83 (by decide) (by omega) (by omega) (by omega) (by omega)]; exact f6⟩, ⟨by rw [e34 0 (by decide) (by decide), hc 3 (by decide) (by omega) (by omega) (by omega) (by omega)]; exact g1, by rw [e34 1 (by decide) (by decide), hc 4 (by decide) (by omega) (by omega) (by omega) (by omega)]; exact g2, by rw [e34 0 (by decide) (by decide), e34 1 (by decide) (by decide)]; exact g3⟩, fun x hx => ?_, fun x hx => ?_, fun x hx => ?_, ⟨?_, ?_⟩, fun i hi => ?_⟩
  · rw [k1] at hx
    rw [ex 35 (by decide) (by decide), ex 36 (by decide) (by decide), ex 37 (by decide) (by decide), hc (7 + x) (by omega) (by omega) (by omega) (by omega) (by omega), hc (17 + x) (by omega) (by omega) (by omega) (by omega) (by omega), hc (27 + x) (by omega) (by omega) (by omega) (by omega) (by omega), hc (37 + x) (by omega) (by omega) (by omega) (by omega) (by omega), k0]
    exact hw x hx
  · rw [hc2] at hx
    rw [e38 x, e39 x, e40 x, e41 x, e42 x, k0]
    by_cases e : x = n
    · subst e
      rw [if_pos rfl, if_pos rfl, if_pos rfl, if_pos rfl, if_pos rfl, hc47, hc53, hc59, hc65]
      exact ⟨⟨rfl, rfl, rfl, rfl, rfl⟩, h1, h2, h3, rfl⟩
    · rw [if_neg e, if_neg e, if_neg e, if_neg e, if_neg e, hc (47 + x) (by omega) (by omega) (by omega) (by omega) (by omega), hc (53 + x) (by omega) (by omega) (by omega) (by omega) (by omega), hc (59 + x) (by omega) (by omega) (by omega) (by omega) (by omega), hc (65 + x) (by omega) (by omega) (by omega) (by omega) (by omega)]
      exact hk x (by omega)
  · rw [hc (71 + x) (by omega) (by omega) (by omega) (by omega) (by omega), hc (77 + x) (by omega) (by omega) (by omega) (by omega) (by omega)]; exact hz x hx
  · rw [e34 7 (by decide) (by decide), k1]; exact s1
  · rw [e8, s2, hn, hc2, tnc, tnc]; exact o_or_set1 (by omega) rfl
  · rw [e43 i, hnm i]
    have hu : usedN c2 i ↔ (usedN c i ∨ i = 18 + n) := by
      unfold usedN
      rw [hc2, k0, k1, hn]
      omega
    by_cases hi2 : i = 18 + n
    · rw [if_pos hi2, if_pos hi2]
      exact ⟨fun _ => rfl, fun h => absurd (hu.mpr (Or.inr hi2)) h⟩
    · rw [if_neg hi2, if_neg hi2]
      exact ⟨fun h => (hN i hi).1 ((hu.mp h).resolve_right hi2), fun h => (hN i hi).2 (fun h2 => h (hu.mpr (Or.inl h2)))⟩
