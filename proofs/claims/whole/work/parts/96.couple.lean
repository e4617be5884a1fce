/-! HOUSE: a PART couple on both sides -/
def C6 (k his hers love : Int) (B : AM) : Option AM := if B 0 12 ≤ 0 then (if 0 ≤ o_add 1467 k ∧ o_add 1467 k < 1775 then (zlet (am_upd B 5 (Int.toNat (o_add 1467 k)) his) fun M11 => if 0 ≤ o_add 1473 k ∧ o_add 1473 k < 1775 then (zlet (am_upd M11 5 (Int.toNat (o_add 1473 k)) hers) fun M13 => if 0 ≤ o_add 1479 k ∧ o_add 1479 k < 1775 then (zlet (am_upd M13 5 (Int.toNat (o_add 1479 k)) love) fun M15 => if 0 ≤ o_add 1485 k ∧ o_add 1485 k < 1775 then (zlet (am_upd M15 5 (Int.toNat (o_add 1485 k)) 1) fun M17 => zlet (am_upd M17 5 (Int.toNat 1422) (o_add (M17 5 (Int.toNat 1422)) 1)) fun M18 => some M18) else none) else none) else none) else none) else some B
def C5 (k his hers : Int) (B : AM) : Option AM := (f_X11_isLove B).bind fun x8 => (f_X11_behindWord x8.1 1 9 x8.2).bind fun x9 => C6 k his hers x9.1 x9.2
def C4 (k his : Int) (B : AM) : Option AM := (f_X11_readTold 4 0 B).bind fun x7 => C5 k his x7.1 x7.2
def C3 (k his : Int) (B : AM) : Option AM := (f_X11_isShe B).bind fun x5 => (f_X11_must x5.1 x5.2).bind fun x6 => C4 k his x6
def C2 (k : Int) (B : AM) : Option AM := (f_X11_readTold 4 0 B).bind fun x4 => C3 k x4.1 x4.2
def C1 (k : Int) (B : AM) : Option AM := (f_X11_isHe B).bind fun x2 => (f_X11_must x2.1 x2.2).bind fun x3 => C2 k x3
theorem readCouple_C (B : AM) : f_X11_readCouple B = (f_X11_readNew 2 6 B).bind fun x1 => C1 x1.1 x1.2 := rfl
theorem C6_bad {k a b d : Int} {B : AM} (h : 0 < B 0 12) : C6 k a b d B = some B := by
  unfold C6
  rw [if_neg (by omega)]
theorem C5_bad {k a b : Int} {B : AM} (h : 0 < B 0 12) : C5 k a b B = some B := by
  unfold C5
  obtain ⟨v, _, e⟩ := any_isLove B
  rw [e, bind_s]
  dsimp only
  rw [m_behind_bad _ _ _ h, bind_s]
  exact C6_bad h
theorem C4_bad {k a : Int} {B : AM} (h : 0 < B 0 12) : C4 k a B = some B := by
  unfold C4
  rw [m_readTold_bad _ _ h, bind_s]
  exact C5_bad h
theorem C3_bad {k a : Int} {B : AM} (h : 0 < B 0 12) : C3 k a B = some B := by
  unfold C3
  obtain ⟨v, _, e⟩ := any_isShe B
  rw [e, bind_s]
  dsimp only
  rw [m_must_bad _ h, bind_s, C4_bad h]
theorem C2_bad {k : Int} {B : AM} (h : 0 < B 0 12) : C2 k B = some B := by
  unfold C2
  rw [m_readTold_bad _ _ h, bind_s]
  exact C3_bad h
theorem C1_bad {k : Int} {B : AM} (h : 0 < B 0 12) : C1 k B = some B := by
  unfold C1
  obtain ⟨v, _, e⟩ := any_isHe B
  rw [e, bind_s]
  dsimp only
  rw [m_must_bad _ h, bind_s, C2_bad h]
def D6 (his hers love : Int) (A : AM) : Option (Int × AM) := (f_X5_takeSemicolon A).bind fun x9 => if ¬ x9.1 = 0 then ((f_X1_addCouple 34 his hers love x9.2).bind fun x10 => some (1, x10)) else some (0, x9.2)
def D5 (his hers : Int) (A : AM) : Option (Int × AM) := (f_X5_takeKeyword 10 A).bind fun x7 => if ¬ x7.1 = 0 then ((f_X5_takeNumber 1 9 x7.2).bind fun x8 => if x8.1 = (-1) then some (0, x8.2) else D6 his hers x8.1 x8.2) else some (0, x7.2)
def D4 (his : Int) (A : AM) : Option (Int × AM) := (f_X2_takeRoom (-1) A).bind fun x6 => if x6.1 = (-1) then some (0, x6.2) else D5 his x6.1 x6.2
def D3 (his : Int) (A : AM) : Option (Int × AM) := (f_X5_takeKeyword 9 A).bind fun x5 => if ¬ x5.1 = 0 then D4 his x5.2 else some (0, x5.2)
def D2 (A : AM) : Option (Int × AM) := (f_X2_takeRoom (-1) A).bind fun x4 => if x4.1 = (-1) then some (0, x4.2) else D3 x4.1 x4.2
def D1 (A : AM) : Option (Int × AM) := (f_X5_takeKeyword 8 A).bind fun x3 => if ¬ x3.1 = 0 then D2 x3.2 else some (0, x3.2)
theorem readCouple_D (A : AM) : f_X2_readCouple A = if A 34 4 < 6 then ((f_X5_advance A).bind fun x1 => (f_X2_takeNewName (o_add 18 (x1 34 4)) x1).bind fun x2 => if x2.1 = 0 then some (0, x2.2) else D1 x2.2) else ((f_X5_refuse 6 A).bind fun x11 => if x11.1 = 0 ∨ x11.1 = 1 then some (x11.1, x11.2) else none) := rfl
theorem C6_ok {n : Nat} {a b d : Int} {B : AM} (hn : n < 6) (h2 : B 5 1422 = (n : Int)) (h0 : B 0 12 = 0) : C6 (n : Int) a b d B = some (am_upd (am_upd (am_upd (am_upd (am_upd B 5 (1467 + n) a) 5 (1473 + n) b) 5 (1479 + n) d) 5 (1485 + n) 1) 5 1422 ((n + 1 : Nat) : Int)) := by
  have e1 : o_add 1467 (n : Int) = ((1467 + n : Nat) : Int) := by rw [o_add_eq (by omega) (by omega)]; omega
  have e2 : o_add 1473 (n : Int) = ((1473 + n : Nat) : Int) := by rw [o_add_eq (by omega) (by omega)]; omega
  have e3 : o_add 1479 (n : Int) = ((1479 + n : Nat) : Int) := by rw [o_add_eq (by omega) (by omega)]; omega
  have e4 : o_add 1485 (n : Int) = ((1485 + n : Nat) : Int) := by rw [o_add_eq (by omega) (by omega)]; omega
  unfold C6
  rw [if_pos (by omega), e1, e2, e3, e4, if_pos (by omega), zlet_eq, if_pos (by omega), zlet_eq, if_pos (by omega), zlet_eq, if_pos (by omega), zlet_eq, zlet_eq]
  simp only [tnc, tn1422]
  rw [am_upd_ne (show ¬ (5 = 5 ∧ 1422 = 1485 + n) by omega), am_upd_ne (show ¬ (5 = 5 ∧ 1422 = 1479 + n) by omega), am_upd_ne (show ¬ (5 = 5 ∧ 1422 = 1473 + n) by omega), am_upd_ne (show ¬ (5 = 5 ∧ 1422 = 1467 + n) by omega), h2, o_succ (by omega)]
theorem x_addCouple34 {n : Nat} {a b d : Int} {A : AM} (hn : n < 6) (h3 : A 34 4 = (n : Int)) : f_X1_addCouple 34 a b d A = some (am_upd (am_upd (am_upd (am_upd (am_upd (am_upd (am_upd A 38 n a) 39 n b) 40 n d) 41 n 0) 42 n 0) 34 8 (o_or (A 34 8) (o_shl 1 (n : Int)))) 34 4 ((n + 1 : Nat) : Int)) := by
  have k : ∀ (y i j : Nat) (u : Int) (M : AM), 34 ≠ y → am_upd M y i u 34 j = M 34 j := fun y i j u M h => by rw [am_upd_cell h]
  unfold f_X1_addCouple
  simp only [zlet_eq]
  rw [h3, if_neg (by omega), if_pos (by omega)]
  simp only [show 34 + 4 = 38 from rfl, show 34 + 5 = 39 from rfl, show 34 + 6 = 40 from rfl, show 34 + 7 = 41 from rfl, show 34 + 8 = 42 from rfl, k 38 _ _ _ _ (by decide), k 39 _ _ _ _ (by decide), k 40 _ _ _ _ (by decide), k 41 _ _ _ _ (by decide), k 42 _ _ _ _ (by decide), h3, tnc]
  rw [if_pos (by omega), if_pos (by omega), if_pos (by omega), if_pos (by omega), am_upd_ne (show ¬ (34 = 34 ∧ 4 = 8) by decide), k 42 _ _ _ _ (by decide), k 41 _ _ _ _ (by decide), k 40 _ _ _ _ (by decide), k 39 _ _ _ _ (by decide), k 38 _ _ _ _ (by decide), h3, o_succ (by omega)]
theorem couple_6 {L n : Nat} {A0 B0 A B : AM} {w one two lo : Int} (hH : HP A0 B0) (hn : B0 5 1422 = (n : Int)) (h6 : n < 6) (hN : NmF (18 + n) w A0 B0 A B) (t : TK L A B) (f : FO A B) (h1 : 0 ≤ one ∧ one < B0 5 1420) (h2 : 0 ≤ two ∧ two < B0 5 1420) (h3 : 1 ≤ lo ∧ lo ≤ 9) :
    PO2 L A0 B0 A (D6 one two lo A) ((C6 (n : Int) one two lo B).bind semiM) := by
  obtain ⟨x2, y2⟩ := NmF_XY hN
  have k5 := NmF_5 hN
  unfold D6
  rw [C6_ok h6 (by rw [k5]; exact hn) f.2.2, bind_s]
  generalize hB1 : am_upd (am_upd (am_upd (am_upd (am_upd B 5 (1467 + n) one) 5 (1473 + n) two) 5 (1479 + n) lo) 5 (1485 + n) 1) 5 1422 ((n + 1 : Nat) : Int) = B1
  have b1 : ∀ x, x ≠ 5 → B1 x = B x := fun x hx => by rw [← hB1, am_upd_cell hx, am_upd_cell hx, am_upd_cell hx, am_upd_cell hx, am_upd_cell hx]
  have yB1 : YF B B1 := by rw [← hB1]; exact YF_trans (YF_c _ (by omega)) (YF_trans (YF_c _ (by omega)) (YF_trans (YF_c _ (by omega)) (YF_trans (YF_c _ (by omega)) (YF_c _ (by omega)))))
  have t1 : TK L A B1 := TK_cong t rfl rfl rfl (b1 4 (by decide)) (fun i _ => by rw [b1 0 (by decide)])
  have f1 : FO A B1 := FO_cong f rfl (by rw [b1 0 (by decide)])
  rcases mb_semi t1 f1 with ⟨A4, B4, e4, e5, t4, f4, c4, m4, v4⟩ | ⟨A4, B4, e4, e5, p1, p2, p3, _⟩
  · rw [e4, bind_s, show semiM B1 = some B4 from e5]
    dsimp only
    have qA : ∀ x, x ≠ 20 → x ≠ 43 → A4 x = A0 x := fun x h20 h43 => by rw [c4.1 x h20]; exact NmF_A hN h20 h43
    have h43 : A4 34 4 = (n : Int) := by rw [qA 34 (by decide) (by decide), (HP_2 hH).1, hn]
    rw [if_pos (by decide), x_addCouple34 h6 h43, bind_s]
    generalize hA5 : am_upd (am_upd (am_upd (am_upd (am_upd (am_upd (am_upd A4 38 n one) 39 n two) 40 n lo) 41 n 0) 42 n 0) 34 8 (o_or (A4 34 8) (o_shl 1 (n : Int)))) 34 4 ((n + 1 : Nat) : Int) = A5
    have a5 : ∀ x, x ≠ 34 → (x < 38 ∨ 42 < x) → A5 x = A4 x := fun x h34 hx => by rw [← hA5, am_upd_cell h34, am_upd_cell h34, am_upd_cell (by omega), am_upd_cell (by omega), am_upd_cell (by omega), am_upd_cell (by omega), am_upd_cell (by omega)]
    have aN : ∀ (i : Nat) (u v : Int), (if 34 = 34 ∧ i = n then u else v) = if i = n then u else v := fun i u v => by
      by_cases e : i = n
      · rw [if_pos ⟨rfl, e⟩, if_pos e]
      · rw [if_neg (fun h => e h.2), if_neg e]
    refine Or.inl ⟨A5, B4, rfl, rfl, TK_cong t4 (a5 20 (by decide) (by decide)) (a5 21 (by decide) (by decide)) (a5 22 (by decide) (by decide)) rfl (fun _ _ => rfl), FO_cong f4 (a5 20 (by decide) (by decide)) rfl, ?_, XF_trans x2 (XF_trans (CF_XF c4) ⟨fun x _ hx _ => a5 x (by omega) (by omega), by rw [a5 20 (by decide) (by decide)], by rw [a5 20 (by decide) (by decide)]⟩), YF_trans y2 (YF_trans yB1 (MF_YF m4)), ?_⟩
    · unfold HP
      rw [m4.2 25 (by decide), b1 0 (by decide), NmF_25 hN]
      have q5 : B4 5 = B1 5 := m4.1 5 (by decide)
      have eqn : ∀ (M : AM) (x i : Nat) (u : Int), am_upd M x n u x i = if i = n then u else M x i := fun M x i u => by
        rw [am_upd_eq]
        by_cases e : i = n
        · rw [if_pos ⟨rfl, e⟩, if_pos e]
        · rw [if_neg (fun h => e h.2), if_neg e]
      refine HQ_couple (w := w) (n := n) (one := one) (two := two) (lo := lo) hH hn h6 h1 h2 h3 (fun j j4 j8 => ?_) ?_ ?_ (fun i => ?_) (fun i => ?_) (fun i => ?_) (fun i => ?_) (fun i => ?_) (fun x x1 x2 => ?_) (fun i => ?_) ?_ ?_ ?_ ?_ ?_ (fun k k2 k47 k53 k59 k65 => ?_) (fun i => ?_)
      · rw [← hA5, am_upd_ne (by omega), am_upd_ne (by omega), am_upd_cell (by decide), am_upd_cell (by decide), am_upd_cell (by decide), am_upd_cell (by decide), am_upd_cell (by decide), qA 34 (by decide) (by decide)]
      · rw [← hA5, am_upd_self]
      · rw [← hA5, am_upd_ne (by omega), am_upd_self, qA 34 (by decide) (by decide)]
      · rw [← hA5, am_upd_cell (by decide), am_upd_cell (by decide), am_upd_cell (by decide), am_upd_cell (by decide), am_upd_cell (by decide), am_upd_cell (by decide), eqn, qA 38 (by decide) (by decide)]
      · rw [← hA5, am_upd_cell (by decide), am_upd_cell (by decide), am_upd_cell (by decide), am_upd_cell (by decide), am_upd_cell (by decide), eqn, am_upd_cell (by decide), qA 39 (by decide) (by decide)]
      · rw [← hA5, am_upd_cell (by decide), am_upd_cell (by decide), am_upd_cell (by decide), am_upd_cell (by decide), eqn, am_upd_cell (by decide), am_upd_cell (by decide), qA 40 (by decide) (by decide)]
      · rw [← hA5, am_upd_cell (by decide), am_upd_cell (by decide), am_upd_cell (by decide), eqn, am_upd_cell (by decide), am_upd_cell (by decide), am_upd_cell (by decide), qA 41 (by decide) (by decide)]
      · rw [← hA5, am_upd_cell (by decide), am_upd_cell (by decide), eqn, am_upd_cell (by decide), am_upd_cell (by decide), am_upd_cell (by decide), am_upd_cell (by decide), qA 42 (by decide) (by decide)]
      · rw [a5 x (by omega) (by omega)]; exact qA x (by omega) (by omega)
      · rw [a5 43 (by decide) (by decide), c4.1 43 (by decide)]; exact NmF_43 hN i
      · show B4 5 1422 = _
        rw [q5, ← hB1, am_upd_self]
      · show B4 5 (1420 + (47 + n)) = _
        rw [q5, ← hB1, am_upd_ne (by omega), am_upd_ne (by omega), am_upd_ne (by omega), am_upd_ne (by omega), am_upd_eq, if_pos (by omega)]
      · show B4 5 (1420 + (53 + n)) = _
        rw [q5, ← hB1, am_upd_ne (by omega), am_upd_ne (by omega), am_upd_ne (by omega), am_upd_eq, if_pos (by omega)]
      · show B4 5 (1420 + (59 + n)) = _
        rw [q5, ← hB1, am_upd_ne (by omega), am_upd_ne (by omega), am_upd_eq, if_pos (by omega)]
      · show B4 5 (1420 + (65 + n)) = _
        rw [q5, ← hB1, am_upd_ne (by omega), am_upd_eq, if_pos (by omega)]
      · show B4 5 (1420 + k) = B0 5 (1420 + k)
        rw [q5, ← hB1, am_upd_ne (by omega), am_upd_ne (by omega), am_upd_ne (by omega), am_upd_ne (by omega), am_upd_ne (by omega), k5]
      · show B4 8 (96 + i) = if i = 18 + n then w else B0 8 (96 + i)
        rw [m4.1 8 (by decide), b1 8 (by decide)]
        exact NmF_8 hN i
    · unfold Adv at v4 ⊢
      rw [a5 20 (by decide) (by decide)]
      exact v4
  · rw [e4, bind_s, show semiM B1 = some B4 from e5]
    dsimp only
    rw [if_neg (show ¬ ¬ (0 : Int) = 0 by decide)]
    exact Or.inr ⟨A4, B4, rfl, rfl, p1, XF_trans x2 p2, YF_trans y2 (YF_trans yB1 p3)⟩
theorem couple_5 {L n : Nat} {A0 B0 A B : AM} {w one two : Int} (hH : HP A0 B0) (hn : B0 5 1422 = (n : Int)) (h6 : n < 6) (hN : NmF (18 + n) w A0 B0 A B) (t : TK L A B) (f : FO A B) (h1 : 0 ≤ one ∧ one < B0 5 1420) (h2 : 0 ≤ two ∧ two < B0 5 1420) :
    PO2 L A0 B0 A (D5 one two A) ((C5 (n : Int) one two B).bind semiM) := by
  obtain ⟨x1, y1⟩ := NmF_XY hN
  unfold D5 C5 f_X11_behindWord
  rw [m_isLove t, bind_s]
  dsimp only
  rcases mb_kw 10 t f with ⟨A2, B2, e1, e2, t2, f2, c2, m2, v2⟩ | ⟨A2, B2, e1, e2, p1, p2, p3, _⟩
  · have N2 := NmF_F hN c2 m2
    obtain ⟨x2, y2⟩ := NmF_XY N2
    rw [e1, e2, bind_s, bind_s]
    dsimp only
    rw [if_pos (by decide)]
    refine PO2_pre v2 ?_
    rcases nb_count 1 9 t2 f2 with ⟨v, A3, B3, g1, g2, e5, e6, t3, f3, c3, m3, v3⟩ | ⟨A3, B3, e5, e6, p1, p2, p3, _⟩
    · rw [e5, e6, bind_s, bind_s, bind_s]
      dsimp only
      rw [if_neg (by omega)]
      exact PO2_pre v3 (couple_6 hH hn h6 (NmF_F N2 c3 m3) t3 f3 h1 h2 ⟨g1, g2⟩)
    · have p0 := p1.1
      rw [e5, e6, bind_s, bind_s, bind_s]
      dsimp only
      rw [if_pos rfl, C6_bad p0, bind_s, semi_bad p0]
      exact Or.inr ⟨A3, B3, rfl, rfl, p1, XF_trans x2 p2, YF_trans y2 p3⟩
  · have p0 := p1.1
    rw [e1, e2, bind_s, bind_s, m_count_bad _ _ p0, bind_s, bind_s]
    dsimp only
    rw [if_neg (show ¬ ¬ (0 : Int) = 0 by decide), C6_bad p0, bind_s, semi_bad p0]
    exact Or.inr ⟨A2, B2, rfl, rfl, p1, XF_trans x1 p2, YF_trans y1 p3⟩
theorem couple_4 {L n : Nat} {A0 B0 A B : AM} {w one : Int} (hH : HP A0 B0) (hn : B0 5 1422 = (n : Int)) (h6 : n < 6) (hN : NmF (18 + n) w A0 B0 A B) (t : TK L A B) (f : FO A B) (h1 : 0 ≤ one ∧ one < B0 5 1420) :
    PO2 L A0 B0 A (D4 one A) ((C4 (n : Int) one B).bind semiM) := by
  obtain ⟨r1, r2⟩ := NmF_rooms hH hN (by omega)
  obtain ⟨x1, y1⟩ := NmF_XY hN
  unfold D4 C4 f_X11_readTold
  rcases td_room t f r1 r2 with ⟨k, k1, k2, k3, k4⟩ | ⟨v, A', B', e1, e2, p1, p2, p3⟩
  · rw [NmF_5 hN] at k1
    obtain ⟨A1, B1, e1, e2, c1, m1, t1, v1⟩ := TK_adv t
    rw [k3, bind_s, k4, if_pos (by omega), e1, bind_s, bind_s]
    dsimp only
    rw [m_must_1 f.2.2, e2, bind_s, bind_s, if_neg (by omega)]
    exact PO2_pre v1 (couple_5 hH hn h6 (NmF_F hN c1 m1) t1 (FO_F f c1 m1) h1 ⟨by omega, k1⟩)
  · have p0 := p1.1
    rw [e1, e2, bind_s, bind_s]
    dsimp only
    rw [m_must_bad _ p0, bind_s, bind_s, if_pos rfl, C5_bad p0, bind_s, semi_bad p0]
    exact Or.inr ⟨A', B', rfl, rfl, p1, XF_trans x1 p2, YF_trans y1 p3⟩
theorem couple_3 {L n : Nat} {A0 B0 A B : AM} {w one : Int} (hH : HP A0 B0) (hn : B0 5 1422 = (n : Int)) (h6 : n < 6) (hN : NmF (18 + n) w A0 B0 A B) (t : TK L A B) (f : FO A B) (h1 : 0 ≤ one ∧ one < B0 5 1420) :
    PO2 L A0 B0 A (D3 one A) ((C3 (n : Int) one B).bind semiM) := by
  obtain ⟨x1, y1⟩ := NmF_XY hN
  unfold D3 C3
  rw [m_isShe t, bind_s]
  dsimp only
  rcases mb_kw 9 t f with ⟨A2, B2, e1, e2, t2, f2, c2, m2, v2⟩ | ⟨A2, B2, e1, e2, p1, p2, p3, _⟩
  · rw [e1, e2, bind_s, bind_s]
    dsimp only
    rw [if_pos (by decide)]
    exact PO2_pre v2 (couple_4 hH hn h6 (NmF_F hN c2 m2) t2 f2 h1)
  · rw [e1, e2, bind_s, bind_s]
    dsimp only
    rw [if_neg (show ¬ ¬ (0 : Int) = 0 by decide), C4_bad p1.1, bind_s, semi_bad p1.1]
    exact Or.inr ⟨A2, B2, rfl, rfl, p1, XF_trans x1 p2, YF_trans y1 p3⟩
theorem couple_2 {L n : Nat} {A0 B0 A B : AM} {w : Int} (hH : HP A0 B0) (hn : B0 5 1422 = (n : Int)) (h6 : n < 6) (hN : NmF (18 + n) w A0 B0 A B) (t : TK L A B) (f : FO A B) :
    PO2 L A0 B0 A (D2 A) ((C2 (n : Int) B).bind semiM) := by
  obtain ⟨r1, r2⟩ := NmF_rooms hH hN (by omega)
  obtain ⟨x1, y1⟩ := NmF_XY hN
  unfold D2 C2 f_X11_readTold
  rcases td_room t f r1 r2 with ⟨k, k1, k2, k3, k4⟩ | ⟨v, A', B', e1, e2, p1, p2, p3⟩
  · rw [NmF_5 hN] at k1
    obtain ⟨A1, B1, e1, e2, c1, m1, t1, v1⟩ := TK_adv t
    rw [k3, bind_s, k4, if_pos (by omega), e1, bind_s, bind_s]
    dsimp only
    rw [m_must_1 f.2.2, e2, bind_s, bind_s, if_neg (by omega)]
    exact PO2_pre v1 (couple_3 hH hn h6 (NmF_F hN c1 m1) t1 (FO_F f c1 m1) ⟨by omega, k1⟩)
  · have p0 := p1.1
    rw [e1, e2, bind_s, bind_s]
    dsimp only
    rw [m_must_bad _ p0, bind_s, bind_s, if_pos rfl, C3_bad p0, bind_s, semi_bad p0]
    exact Or.inr ⟨A', B', rfl, rfl, p1, XF_trans x1 p2, YF_trans y1 p3⟩
theorem couple_1 {L n : Nat} {A0 B0 A B : AM} {w : Int} (hH : HP A0 B0) (hn : B0 5 1422 = (n : Int)) (h6 : n < 6) (hN : NmF (18 + n) w A0 B0 A B) (t : TK L A B) (f : FO A B) :
    PO2 L A0 B0 A (D1 A) ((C1 (n : Int) B).bind semiM) := by
  obtain ⟨x1, y1⟩ := NmF_XY hN
  unfold D1 C1
  rw [m_isHe t, bind_s]
  dsimp only
  rcases mb_kw 8 t f with ⟨A2, B2, e1, e2, t2, f2, c2, m2, v2⟩ | ⟨A2, B2, e1, e2, p1, p2, p3, _⟩
  · rw [e1, e2, bind_s, bind_s]
    dsimp only
    rw [if_pos (by decide)]
    exact PO2_pre v2 (couple_2 hH hn h6 (NmF_F hN c2 m2) t2 f2)
  · rw [e1, e2, bind_s, bind_s]
    dsimp only
    rw [if_neg (show ¬ ¬ (0 : Int) = 0 by decide), C2_bad p1.1, bind_s, semi_bad p1.1]
    exact Or.inr ⟨A2, B2, rfl, rfl, p1, XF_trans x1 p2, YF_trans y1 p3⟩
theorem part_couple {L : Nat} {A B : AM} (h : TK L A B) (hF : FO A B) (hH : HP A B) (hk : 0 ≤ A 20 3) : PO2 L A B A (f_X2_readCouple A) ((f_X11_readCouple B).bind semiM) := by
  obtain ⟨r1, r2, r3⟩ := HP_2 hH
  obtain ⟨n, hn⟩ : ∃ n : Nat, B 5 1422 = (n : Int) := ⟨(B 5 1422).toNat, by omega⟩
  rw [readCouple_D, readCouple_C]
  by_cases g : A 34 4 < 6
  · obtain ⟨A1, e1, c1, hh⟩ := nn_both (sort := 2) (n := n) (by decide) (by show 18 + n < 24; omega) h hF hH
    have hsl : o_add 18 (A1 34 4) = ((nfr 2 + n : Nat) : Int) := by rw [c1.1 34 (by decide), r1, hn, o_add_eq (by omega) (by omega)]; show _ = ((18 + n : Nat) : Int); omega
    have hR : f_X11_readNew 2 6 B = f_X11_readNew_26 2 (n : Int) B := m_readNew_lt (sort := 2) (by decide) hn (by omega)
    rw [if_pos g, e1, bind_s, hsl, hR]
    rcases hh with ⟨w, A2, B2, e2, e3, t2, f2, v2, n2⟩ | ⟨A2, B2, v, e2, e3, b1, b2, b3⟩
    · replace e3 : f_X11_readNew_26 2 (n : Int) B = some ((n : Int), B2) := e3
      rw [e2, e3, bind_s, bind_s]
      dsimp only
      rw [if_neg (by decide)]
      exact PO2_pre v2 (couple_1 hH hn (by omega) n2 t2 f2)
    · replace e3 : f_X11_readNew_26 2 (n : Int) B = some (v, B2) := e3
      have b0 := b1.1
      rw [e2, e3, bind_s, bind_s]
      dsimp only
      rw [if_pos rfl, C1_bad b0, bind_s, semi_bad b0]
      exact Or.inr ⟨A2, B2, rfl, rfl, b1, b2, b3⟩
  · obtain ⟨A', B', e1, e2, c1, c2, c3⟩ := full_both (sort := 2) (n := n) (most := 6) (by decide) hn (by omega) h hF hk
    have b0 := c1.1
    replace e2 : f_X11_readNew 2 6 B = some (0, B') := e2
    rw [if_neg g, e1, bind_s, e2, bind_s]
    dsimp only
    rw [if_pos (Or.inl rfl), C1_bad b0, bind_s, semi_bad b0]
    exact Or.inr ⟨A', B', rfl, rfl, c1, c2, c3⟩
/-- a PART on both sides -/
theorem part_both {L : Nat} {A B : AM} (h : TK L A B) (hF : FO A B) (hH : HP A B) : PO2 L A B A (f_X2_readPart A) ((f_X11_readPart B).bind semiM) := by
  have fin : ∀ {x : Option (Int × AM)} {m : Option AM}, PO2 L A B A x m → PO2 L A B A (x.bind fun y => if y.1 = 0 ∨ y.1 = 1 then some (y.1, y.2) else none) m := by
    intro x m hp
    rcases hp with ⟨A', B', a1, a2⟩ | ⟨A', B', a1, a2⟩
    · rw [a1, bind_s]
      dsimp only
      rw [if_pos (Or.inr rfl)]
      exact Or.inl ⟨A', B', rfl, a2⟩
    · rw [a1, bind_s]
      dsimp only
      rw [if_pos (Or.inl rfl)]
      exact Or.inr ⟨A', B', rfl, a2⟩
  have ids : ∀ m : Option AM, (m.bind fun x => some x) = m := fun m => by cases m <;> rfl
  unfold f_X2_readPart f_X11_readPart
  rw [m_isPower h, bind_s]
  dsimp only
  by_cases g0 : A 20 3 = 0
  · rw [if_pos g0, if_pos g0, if_neg (by decide), ids]
    exact part_once (j := 3) (f := 0) (lo := 1) (hi := 99) (Or.inl ⟨rfl, rfl, rfl, rfl⟩) h hF hH (by omega)
  rw [if_neg g0, if_neg g0, if_pos rfl, m_isOdds h, bind_s]
  dsimp only
  by_cases g1 : A 20 3 = 1
  · rw [if_pos g1, if_pos g1, if_neg (by decide), ids]
    exact part_once (j := 4) (f := 1) (lo := 0) (hi := 16) (Or.inr ⟨rfl, rfl, rfl, rfl⟩) h hF hH (by omega)
  rw [if_neg g1, if_neg g1, if_pos rfl, m_isRoom h, bind_s]
  dsimp only
  by_cases g2 : A 20 3 = 2
  · rw [if_pos g2, if_pos g2, if_neg (by decide), ids]
    exact fin (part_room h hF hH (by omega))
  rw [if_neg g2, if_neg g2, if_pos rfl, m_isWire h, bind_s]
  dsimp only
  by_cases g3 : A 20 3 = 3
  · rw [if_pos g3, if_pos g3, if_neg (by decide), ids]
    exact fin (part_wire h hF hH (by omega))
  rw [if_neg g3, if_neg g3, if_pos rfl, m_isCouple h, bind_s]
  dsimp only
  by_cases g7 : A 20 3 = 7
  · rw [if_neg (show ¬ A 20 3 = 4 by omega), if_neg (show ¬ A 20 3 = 5 by omega), if_neg (show ¬ A 20 3 = 6 by omega), if_pos g7, if_pos g7, if_neg (by decide), ids]
    exact fin (part_couple h hF hH (by omega))
  rw [if_neg g7, if_neg g7, if_pos rfl, ids]
  have hbad : PO2 L A B A (f_X5_refuse 2 A) ((f_X11_amiss B).bind semiM) := by
    obtain ⟨A', B', e1, e2, c1, c2, c3, _⟩ := bad_2 h hF
    rw [e1, e2, bind_s, semi_bad c1.1]
    exact Or.inr ⟨A', B', rfl, rfl, c1, c2, c3⟩
  by_cases g4 : A 20 3 = 4
  · rw [if_pos g4]; exact fin hbad
  rw [if_neg g4]
  by_cases g5 : A 20 3 = 5
  · rw [if_pos g5]; exact fin hbad
  rw [if_neg g5]
  by_cases g6 : A 20 3 = 6
  · rw [if_pos g6]; exact fin hbad
  rw [if_neg g6]
  exact fin hbad
