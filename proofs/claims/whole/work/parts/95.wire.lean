/-! HOUSE: a PART wire on both sides -/
def W4 (w one : Int) (B : AM) : Option AM := (f_X11_told 4 0 B).bind fun x7 => if ¬ x7.2 0 12 = 0 then f_X11_readWire_59 w one x7.1 x7.2 else (if ¬ one = x7.1 then f_X11_readWire_59 w one x7.1 x7.2 else ((f_X11_fail 5 (x7.2 0 15) x7.2).bind fun x8 => f_X11_readWire_59 w one x7.1 x8))
def W3 (w one : Int) (B : AM) : Option AM := (f_X11_isTo B).bind fun x5 => (f_X11_must x5.1 x5.2).bind fun x6 => W4 w one x6
def W2 (w : Int) (B : AM) : Option AM := (f_X11_readTold 4 0 B).bind fun x4 => W3 w x4.1 x4.2
def W1 (w : Int) (B : AM) : Option AM := (f_X11_isFrom B).bind fun x2 => (f_X11_must x2.1 x2.2).bind fun x3 => W2 w x3
theorem readWire_W (B : AM) : f_X11_readWire B = (f_X11_readNew 1 10 B).bind fun x1 => W1 x1.1 x1.2 := rfl
theorem W86_bad {w a b s : Int} {B : AM} (h : 0 < B 0 12) : f_X11_readWire_86 w a b s B = some B := by
  unfold f_X11_readWire_86
  rw [if_pos (by omega)]
theorem W59_bad {w a b : Int} {B : AM} (h : 0 < B 0 12) : f_X11_readWire_59 w a b B = some B := by
  unfold f_X11_readWire_59
  obtain ⟨v, _, e⟩ := any_isSlack B
  rw [m_must_bad _ h, bind_s, e, bind_s]
  dsimp only
  rw [m_perhaps_bad _ h, bind_s]
  dsimp only
  rw [if_pos rfl, W86_bad h]
theorem W4_bad {w a : Int} {B : AM} (h : 0 < B 0 12) : W4 w a B = some B := by
  unfold W4
  rw [m_told_bad _ _ h, bind_s]
  dsimp only
  rw [if_pos (by omega), W59_bad h]
theorem W3_bad {w a : Int} {B : AM} (h : 0 < B 0 12) : W3 w a B = some B := by
  unfold W3
  obtain ⟨v, _, e⟩ := any_isTo B
  rw [e, bind_s]
  dsimp only
  rw [m_must_bad _ h, bind_s, W4_bad h]
theorem W2_bad {w : Int} {B : AM} (h : 0 < B 0 12) : W2 w B = some B := by
  unfold W2
  rw [m_readTold_bad _ _ h, bind_s]
  exact W3_bad h
theorem W1_bad {w : Int} {B : AM} (h : 0 < B 0 12) : W1 w B = some B := by
  unfold W1
  obtain ⟨v, _, e⟩ := any_isFrom B
  rw [e, bind_s]
  dsimp only
  rw [m_must_bad _ h, bind_s, W2_bad h]
def V5 (one two : Int) (A : AM) : Option (Int × AM) := if ¬ A 20 3 = 6 then f_X2_readWire_106 one two 0 A else ((f_X5_advance A).bind fun x7 => (f_X5_takeNumber 0 9 x7).bind fun x8 => f_X2_readWire_106 one two x8.1 x8.2)
def V4 (one : Int) (A : AM) : Option (Int × AM) := (f_X2_takeRoom one A).bind fun x6 => if ¬ x6.1 = (-1) then V5 one x6.1 x6.2 else some (0, x6.2)
def V3 (one : Int) (A : AM) : Option (Int × AM) := (f_X5_takeKeyword 5 A).bind fun x5 => if ¬ x5.1 = 0 then V4 one x5.2 else some (0, x5.2)
def V2 (A : AM) : Option (Int × AM) := (f_X2_takeRoom (-1) A).bind fun x4 => if x4.1 = (-1) then some (0, x4.2) else V3 x4.1 x4.2
def V1 (A : AM) : Option (Int × AM) := (f_X5_takeKeyword 4 A).bind fun x3 => if ¬ x3.1 = 0 then V2 x3.2 else some (0, x3.2)
theorem readWire_V (A : AM) : f_X2_readWire A = if A 34 3 < 10 then ((f_X5_advance A).bind fun x1 => (f_X2_takeNewName (o_add 8 (x1 34 3)) x1).bind fun x2 => if x2.1 = 0 then some (0, x2.2) else V1 x2.2) else ((f_X5_refuse 6 A).bind fun x9 => if x9.1 = 0 ∨ x9.1 = 1 then some (x9.1, x9.2) else none) := rfl
theorem m_strings4 {n : Nat} {a b d : Int} {B : AM} (hn : n < 10) : f_X11_strings 4 (n : Int) a b d B = some (am_upd (am_upd (am_upd (am_upd (am_upd B 5 (1427 + n) a) 5 (1437 + n) b) 5 (1447 + n) d) 5 (1457 + n) 1) 5 1421 ((n + 1 : Nat) : Int)) := by
  have e0 : o_mul 355 4 = 1420 := by decide +kernel
  have e7 : o_add (o_add 1420 7) (n : Int) = ((1427 + n : Nat) : Int) := by rw [o_add_eq (x := 1420) (by omega) (by omega), o_add_eq (by omega) (by omega)]; omega
  have e17 : o_add (o_add 1420 17) (n : Int) = ((1437 + n : Nat) : Int) := by rw [o_add_eq (x := 1420) (by omega) (by omega), o_add_eq (by omega) (by omega)]; omega
  have e27 : o_add (o_add 1420 27) (n : Int) = ((1447 + n : Nat) : Int) := by rw [o_add_eq (x := 1420) (by omega) (by omega), o_add_eq (by omega) (by omega)]; omega
  have e37 : o_add (o_add 1420 37) (n : Int) = ((1457 + n : Nat) : Int) := by rw [o_add_eq (x := 1420) (by omega) (by omega), o_add_eq (by omega) (by omega)]; omega
  have e1 : o_add 1420 1 = ((1421 : Nat) : Int) := by decide +kernel
  unfold f_X11_strings
  rw [e0, e7, e17, e27, e37, e1, o_succ (by omega), tnc, tnc, tnc, tnc, tnc, if_pos (by omega), zlet_eq, if_pos (by omega), zlet_eq, if_pos (by omega), zlet_eq, if_pos (by omega), zlet_eq, if_pos (by omega), zlet_eq]
theorem x_addWire34 {n : Nat} {a b d : Int} {A : AM} (hn : n < 10) (h3 : A 34 3 = (n : Int)) : f_X1_addWire 34 a b d A = some (am_upd (am_upd (am_upd (am_upd (am_upd (am_upd A 35 n a) 36 n b) 37 n d) 34 7 (o_or (A 34 7) (o_shl 1 (n : Int)))) 34 3 ((n + 1 : Nat) : Int)) 34 19 0) := by
  have k : ∀ (x y i j : Nat) (u : Int) (M : AM), x ≠ y → am_upd M y i u x j = M x j := fun x y i j u M h => by rw [am_upd_cell h]
  unfold f_X1_addWire
  rw [h3, if_neg (by omega), if_pos (by omega), zlet_eq, k _ _ _ _ _ _ (by decide), h3, if_pos (by omega), zlet_eq, k _ _ _ _ _ _ (by decide), k _ _ _ _ _ _ (by decide), h3, if_pos (by omega), zlet_eq, zlet_eq, zlet_eq, zlet_eq]
  simp only [tnc]
  rw [am_upd_ne (show ¬ (34 = 34 ∧ 3 = 7) by decide), k 34 37 _ _ _ _ (by decide), k 34 36 _ _ _ _ (by decide), k 34 35 _ _ _ _ (by decide), k 34 37 _ _ _ _ (by decide), k 34 36 _ _ _ _ (by decide), k 34 35 _ _ _ _ (by decide), h3, o_succ (by omega)]
theorem wire_6 {L n : Nat} {A0 B0 A B : AM} {w one two sl : Int} (hH : HP A0 B0) (hn : B0 5 1421 = (n : Int)) (h10 : n < 10) (hN : NmF (8 + n) w A0 B0 A B) (t : TK L A B) (f : FO A B) (h1 : 0 ≤ one ∧ one < B0 5 1420) (h2 : 0 ≤ two ∧ two < B0 5 1420) (h3 : 0 ≤ sl ∧ sl ≤ 9) :
    PO2 L A0 B0 A (f_X2_readWire_106 one two sl A) ((f_X11_readWire_86 (n : Int) one two sl B).bind semiM) := by
  obtain ⟨x2, y2⟩ := NmF_XY hN
  have k5 := NmF_5 hN
  unfold f_X2_readWire_106 f_X11_readWire_86
  rw [if_neg (by omega), if_neg (show ¬ ¬ B 0 12 = 0 from fun h => h f.2.2), m_strings4 h10, bind_s, bind_s]
  generalize hB1 : am_upd (am_upd (am_upd (am_upd (am_upd B 5 (1427 + n) one) 5 (1437 + n) two) 5 (1447 + n) sl) 5 (1457 + n) 1) 5 1421 ((n + 1 : Nat) : Int) = B1
  have b1 : ∀ x, x ≠ 5 → B1 x = B x := fun x hx => by rw [← hB1, am_upd_cell hx, am_upd_cell hx, am_upd_cell hx, am_upd_cell hx, am_upd_cell hx]
  have yB1 : YF B B1 := by rw [← hB1]; exact YF_trans (YF_c _ (by omega)) (YF_trans (YF_c _ (by omega)) (YF_trans (YF_c _ (by omega)) (YF_trans (YF_c _ (by omega)) (YF_c _ (by omega)))))
  have t1 : TK L A B1 := TK_cong t rfl rfl rfl (b1 4 (by decide)) (fun i _ => by rw [b1 0 (by decide)])
  have f1 : FO A B1 := FO_cong f rfl (by rw [b1 0 (by decide)])
  rcases mb_semi t1 f1 with ⟨A4, B4, e4, e5, t4, f4, c4, m4, v4⟩ | ⟨A4, B4, e4, e5, p1, p2, p3, _⟩
  · rw [e4, bind_s, show semiM B1 = some B4 from e5]
    dsimp only
    have qA : ∀ x, x ≠ 20 → x ≠ 43 → A4 x = A0 x := fun x h20 h43 => by rw [c4.1 x h20]; exact NmF_A hN h20 h43
    have h43 : A4 34 3 = (n : Int) := by rw [qA 34 (by decide) (by decide), (HP_1 hH).1, hn]
    rw [if_pos (by decide), x_addWire34 h10 h43, bind_s]
    refine Or.inl ⟨_, B4, rfl, rfl, TK_cong t4 ?_ ?_ ?_ rfl (fun _ _ => rfl), FO_cong f4 ?_ rfl, ?_, XF_trans x2 (XF_trans (CF_XF c4) ⟨fun x _ hx _ => ?_, ?_, ?_⟩), YF_trans y2 (YF_trans yB1 (MF_YF m4)), ?_⟩
    · simp only [am_upd_cell (show 20 ≠ 34 by decide), am_upd_cell (show 20 ≠ 35 by decide), am_upd_cell (show 20 ≠ 36 by decide), am_upd_cell (show 20 ≠ 37 by decide)]
    · simp only [am_upd_cell (show 21 ≠ 34 by decide), am_upd_cell (show 21 ≠ 35 by decide), am_upd_cell (show 21 ≠ 36 by decide), am_upd_cell (show 21 ≠ 37 by decide)]
    · simp only [am_upd_cell (show 22 ≠ 34 by decide), am_upd_cell (show 22 ≠ 35 by decide), am_upd_cell (show 22 ≠ 36 by decide), am_upd_cell (show 22 ≠ 37 by decide)]
    · simp only [am_upd_cell (show 20 ≠ 34 by decide), am_upd_cell (show 20 ≠ 35 by decide), am_upd_cell (show 20 ≠ 36 by decide), am_upd_cell (show 20 ≠ 37 by decide)]
    · unfold HP
      rw [m4.2 25 (by decide), b1 0 (by decide), NmF_25 hN]
      have q5 : B4 5 = B1 5 := m4.1 5 (by decide)
      refine HQ_wire (w := w) (n := n) (one := one) (two := two) (sl := sl) hH hn h10 h1 h2 h3 (fun j j3 j7 j19 => ?_) ?_ ?_ ?_ (fun i => ?_) (fun i => ?_) (fun i => ?_) (fun x x1 x2 => ?_) (fun i => ?_) ?_ ?_ ?_ ?_ ?_ (fun k k1 k7 k17 k27 k37 => ?_) (fun i => ?_)
      · rw [am_upd_ne (by omega), am_upd_ne (by omega), am_upd_ne (by omega), am_upd_cell (by decide), am_upd_cell (by decide), am_upd_cell (by decide), qA 34 (by decide) (by decide)]
      · rw [am_upd_ne (by omega), am_upd_self]
      · rw [am_upd_ne (by omega), am_upd_ne (by omega), am_upd_self, qA 34 (by decide) (by decide)]
      · rw [am_upd_self]
      · rw [am_upd_cell (by decide), am_upd_cell (by decide), am_upd_cell (by decide), am_upd_cell (by decide), am_upd_cell (by decide), am_upd_eq, qA 35 (by decide) (by decide)]
        by_cases e : i = n
        · rw [if_pos ⟨rfl, e⟩, if_pos e]
        · rw [if_neg (fun h => e h.2), if_neg e]
      · rw [am_upd_cell (by decide), am_upd_cell (by decide), am_upd_cell (by decide), am_upd_cell (by decide), am_upd_eq, am_upd_cell (by decide), qA 36 (by decide) (by decide)]
        by_cases e : i = n
        · rw [if_pos ⟨rfl, e⟩, if_pos e]
        · rw [if_neg (fun h => e h.2), if_neg e]
      · rw [am_upd_cell (by decide), am_upd_cell (by decide), am_upd_cell (by decide), am_upd_eq, am_upd_cell (by decide), am_upd_cell (by decide), qA 37 (by decide) (by decide)]
        by_cases e : i = n
        · rw [if_pos ⟨rfl, e⟩, if_pos e]
        · rw [if_neg (fun h => e h.2), if_neg e]
      · rw [am_upd_cell (by omega), am_upd_cell (by omega), am_upd_cell (by omega), am_upd_cell (by omega), am_upd_cell (by omega), am_upd_cell (by omega)]
        exact qA x (by omega) (by omega)
      · rw [am_upd_cell (by decide), am_upd_cell (by decide), am_upd_cell (by decide), am_upd_cell (by decide), am_upd_cell (by decide), am_upd_cell (by decide), c4.1 43 (by decide)]
        exact NmF_43 hN i
      · show B4 5 1421 = _
        rw [q5, ← hB1, am_upd_self]
      · show B4 5 (1420 + (7 + n)) = _
        rw [q5, ← hB1, am_upd_ne (by omega), am_upd_ne (by omega), am_upd_ne (by omega), am_upd_ne (by omega), am_upd_eq, if_pos (by omega)]
      · show B4 5 (1420 + (17 + n)) = _
        rw [q5, ← hB1, am_upd_ne (by omega), am_upd_ne (by omega), am_upd_ne (by omega), am_upd_eq, if_pos (by omega)]
      · show B4 5 (1420 + (27 + n)) = _
        rw [q5, ← hB1, am_upd_ne (by omega), am_upd_ne (by omega), am_upd_eq, if_pos (by omega)]
      · show B4 5 (1420 + (37 + n)) = _
        rw [q5, ← hB1, am_upd_ne (by omega), am_upd_eq, if_pos (by omega)]
      · show B4 5 (1420 + k) = B0 5 (1420 + k)
        rw [q5, ← hB1, am_upd_ne (by omega), am_upd_ne (by omega), am_upd_ne (by omega), am_upd_ne (by omega), am_upd_ne (by omega), k5]
      · show B4 8 (96 + i) = if i = 8 + n then w else B0 8 (96 + i)
        rw [m4.1 8 (by decide), b1 8 (by decide)]
        exact NmF_8 hN i
    · rw [am_upd_cell (by omega), am_upd_cell (by omega), am_upd_cell (by omega), am_upd_cell (by omega), am_upd_cell (by omega), am_upd_cell (by omega)]
    · rw [am_upd_cell (by decide), am_upd_cell (by decide), am_upd_cell (by decide), am_upd_cell (by decide), am_upd_cell (by decide), am_upd_cell (by decide)]
    · rw [am_upd_cell (by decide), am_upd_cell (by decide), am_upd_cell (by decide), am_upd_cell (by decide), am_upd_cell (by decide), am_upd_cell (by decide)]
    · unfold Adv at v4 ⊢
      simp only [am_upd_cell (show 20 ≠ 34 by decide), am_upd_cell (show 20 ≠ 35 by decide), am_upd_cell (show 20 ≠ 36 by decide), am_upd_cell (show 20 ≠ 37 by decide)]
      exact v4
  · rw [e4, bind_s, show semiM B1 = some B4 from e5]
    dsimp only
    rw [if_neg (show ¬ ¬ (0 : Int) = 0 by decide)]
    exact Or.inr ⟨A4, B4, rfl, rfl, p1, XF_trans x2 p2, YF_trans y2 (YF_trans yB1 p3)⟩
theorem wire_5 {L n : Nat} {A0 B0 A B : AM} {w one two : Int} (hH : HP A0 B0) (hn : B0 5 1421 = (n : Int)) (h10 : n < 10) (hN : NmF (8 + n) w A0 B0 A B) (t : TK L A B) (f : FO A B) (h1 : 0 ≤ one ∧ one < B0 5 1420) (h2 : 0 ≤ two ∧ two < B0 5 1420) :
    PO2 L A0 B0 A ((f_X5_advance A).bind fun x1 => V5 one two x1) ((f_X11_readWire_59 (n : Int) one two B).bind semiM) := by
  obtain ⟨A1, B1, e1, e2, c1, m1, t1, v1⟩ := TK_adv t
  have f1 := FO_F f c1 m1
  have N1 := NmF_F hN c1 m1
  obtain ⟨x1, y1⟩ := NmF_XY N1
  unfold f_X11_readWire_59 V5
  rw [m_must_1 f.2.2, e1, e2, bind_s, bind_s, m_isSlack t1, bind_s]
  dsimp only
  refine PO2_pre v1 ?_
  unfold f_X11_perhaps
  rw [if_neg (show ¬ 0 < B1 0 12 by have := f1.2.2; omega)]
  by_cases g : A1 20 3 = 6
  · obtain ⟨A2, B2, e3, e4, c2, m2, t2, v2⟩ := TK_adv t1
    have f2 := FO_F f1 c2 m2
    have N2 := NmF_F N1 c2 m2
    obtain ⟨x2, y2⟩ := NmF_XY N2
    rw [if_neg (show ¬ ¬ A1 20 3 = 6 from fun h => h g), if_pos g, if_pos (by decide), e3, e4, bind_s, bind_s, bind_s]
    dsimp only
    rw [if_neg (by decide)]
    refine PO2_pre v2 ?_
    rcases nb_count 0 9 t2 f2 with ⟨v, A3, B3, g1, g2, e5, e6, t3, f3, c3, m3, v3⟩ | ⟨A3, B3, e5, e6, p1, p2, p3, _⟩
    · rw [e5, e6, bind_s, bind_s]
      exact PO2_pre v3 (wire_6 hH hn h10 (NmF_F N2 c3 m3) t3 f3 h1 h2 ⟨g1, g2⟩)
    · have p0 := p1.1
      rw [e5, e6, bind_s, bind_s]
      dsimp only
      rw [W86_bad p0, bind_s, semi_bad p0]
      unfold f_X2_readWire_106
      rw [if_pos rfl]
      exact Or.inr ⟨A3, B3, rfl, rfl, p1, XF_trans x2 p2, YF_trans y2 p3⟩
  · rw [if_pos g, if_neg g, if_neg (show ¬ ¬ (0 : Int) = 0 by decide), bind_s]
    dsimp only
    rw [if_pos rfl]
    exact wire_6 hH hn h10 N1 t1 f1 h1 h2 ⟨by omega, by omega⟩
theorem NmF_rooms {s : Nat} {w : Int} {A0 B0 A B : AM} (hH : HP A0 B0) (h : NmF s w A0 B0 A B) (hs : 8 ≤ s) : (A 34 2 = B 5 1420 ∧ 0 ≤ B 5 1420 ∧ B 5 1420 ≤ 8) ∧ ∀ i : Nat, (i : Int) < B 5 1420 → A 43 i = B 8 (96 + i) := by
  have r := HP_0 hH
  rw [NmF_5 h, NmF_A h (by decide) (by decide)]
  refine ⟨r, fun i hi => ?_⟩
  rw [NmF_43 h, NmF_8 h, if_neg (by omega), if_neg (by omega)]
  exact (HP_n hH (by omega)).1 (Or.inl ⟨by omega, hi⟩)
theorem wire_4 {L n : Nat} {A0 B0 A B : AM} {w one : Int} (hH : HP A0 B0) (hn : B0 5 1421 = (n : Int)) (h10 : n < 10) (hN : NmF (8 + n) w A0 B0 A B) (t : TK L A B) (f : FO A B) (h1 : 0 ≤ one ∧ one < B0 5 1420) :
    PO2 L A0 B0 A (V4 one A) ((W4 (n : Int) one B).bind semiM) := by
  obtain ⟨r1, r2⟩ := NmF_rooms hH hN (by omega)
  obtain ⟨x1, y1⟩ := NmF_XY hN
  unfold V4 W4
  rcases td_room t f r1 r2 with ⟨k, k1, k2, k3, k4⟩ | ⟨v, A', B', e1, e2, p1, p2, p3⟩
  · rw [NmF_5 hN] at k1
    rw [k3, bind_s, k4]
    dsimp only
    rw [if_neg (show ¬ ¬ B 0 12 = 0 from fun h => h f.2.2)]
    by_cases g : (k : Int) = one
    · obtain ⟨A2, B2, e1, e2, p1, p2, p3, _⟩ := bad_at 5 (by decide) t f (by have := k2.1; omega)
      rw [if_neg (show ¬ ¬ (k : Int) = one from fun h => h g), if_neg (show ¬ ¬ one = (k : Int) from fun h => h g.symm), e1, e2, bind_s, bind_s, bind_s]
      dsimp only
      rw [if_neg (by decide), W59_bad p1.1, bind_s, semi_bad p1.1]
      exact Or.inr ⟨A2, B2, rfl, rfl, p1, XF_trans x1 p2, YF_trans y1 p3⟩
    · rw [if_pos g, if_pos (fun h => g h.symm)]
      have := wire_5 (one := one) (two := (k : Int)) hH hn h10 hN t f h1 ⟨by omega, k1⟩
      obtain ⟨A1, B1, e1, e2, _⟩ := TK_adv t
      rw [e1, bind_s] at this ⊢
      rw [bind_s]
      dsimp only
      rw [if_pos (by omega)]
      exact this
  · have p0 := p1.1
    rw [e1, e2, bind_s, bind_s]
    dsimp only
    rw [if_neg (show ¬ ¬ (-1 : Int) = -1 by decide), if_pos (by omega), W59_bad p0, bind_s, semi_bad p0]
    exact Or.inr ⟨A', B', rfl, rfl, p1, XF_trans x1 p2, YF_trans y1 p3⟩
theorem wire_3 {L n : Nat} {A0 B0 A B : AM} {w one : Int} (hH : HP A0 B0) (hn : B0 5 1421 = (n : Int)) (h10 : n < 10) (hN : NmF (8 + n) w A0 B0 A B) (t : TK L A B) (f : FO A B) (h1 : 0 ≤ one ∧ one < B0 5 1420) :
    PO2 L A0 B0 A (V3 one A) ((W3 (n : Int) one B).bind semiM) := by
  obtain ⟨x1, y1⟩ := NmF_XY hN
  unfold V3 W3
  rw [m_isTo t, bind_s]
  dsimp only
  rcases mb_kw 5 t f with ⟨A2, B2, e1, e2, t2, f2, c2, m2, v2⟩ | ⟨A2, B2, e1, e2, p1, p2, p3, _⟩
  · rw [e1, e2, bind_s, bind_s]
    dsimp only
    rw [if_pos (by decide)]
    exact PO2_pre v2 (wire_4 hH hn h10 (NmF_F hN c2 m2) t2 f2 h1)
  · rw [e1, e2, bind_s, bind_s]
    dsimp only
    rw [if_neg (show ¬ ¬ (0 : Int) = 0 by decide), W4_bad p1.1, bind_s, semi_bad p1.1]
    exact Or.inr ⟨A2, B2, rfl, rfl, p1, XF_trans x1 p2, YF_trans y1 p3⟩
theorem wire_2 {L n : Nat} {A0 B0 A B : AM} {w : Int} (hH : HP A0 B0) (hn : B0 5 1421 = (n : Int)) (h10 : n < 10) (hN : NmF (8 + n) w A0 B0 A B) (t : TK L A B) (f : FO A B) :
    PO2 L A0 B0 A (V2 A) ((W2 (n : Int) B).bind semiM) := by
  obtain ⟨r1, r2⟩ := NmF_rooms hH hN (by omega)
  obtain ⟨x1, y1⟩ := NmF_XY hN
  unfold V2 W2 f_X11_readTold
  rcases td_room t f r1 r2 with ⟨k, k1, k2, k3, k4⟩ | ⟨v, A', B', e1, e2, p1, p2, p3⟩
  · rw [NmF_5 hN] at k1
    obtain ⟨A1, B1, e1, e2, c1, m1, t1, v1⟩ := TK_adv t
    rw [k3, bind_s, k4, if_pos (by omega), e1, bind_s, bind_s]
    dsimp only
    rw [m_must_1 f.2.2, e2, bind_s, bind_s, if_neg (by omega)]
    exact PO2_pre v1 (wire_3 hH hn h10 (NmF_F hN c1 m1) t1 (FO_F f c1 m1) ⟨by omega, k1⟩)
  · have p0 := p1.1
    rw [e1, e2, bind_s, bind_s]
    dsimp only
    rw [m_must_bad _ p0, bind_s, bind_s, if_pos rfl, W3_bad p0, bind_s, semi_bad p0]
    exact Or.inr ⟨A', B', rfl, rfl, p1, XF_trans x1 p2, YF_trans y1 p3⟩
theorem wire_1 {L n : Nat} {A0 B0 A B : AM} {w : Int} (hH : HP A0 B0) (hn : B0 5 1421 = (n : Int)) (h10 : n < 10) (hN : NmF (8 + n) w A0 B0 A B) (t : TK L A B) (f : FO A B) :
    PO2 L A0 B0 A (V1 A) ((W1 (n : Int) B).bind semiM) := by
  obtain ⟨x1, y1⟩ := NmF_XY hN
  unfold V1 W1
  rw [m_isFrom t, bind_s]
  dsimp only
  rcases mb_kw 4 t f with ⟨A2, B2, e1, e2, t2, f2, c2, m2, v2⟩ | ⟨A2, B2, e1, e2, p1, p2, p3, _⟩
  · rw [e1, e2, bind_s, bind_s]
    dsimp only
    rw [if_pos (by decide)]
    exact PO2_pre v2 (wire_2 hH hn h10 (NmF_F hN c2 m2) t2 f2)
  · rw [e1, e2, bind_s, bind_s]
    dsimp only
    rw [if_neg (show ¬ ¬ (0 : Int) = 0 by decide), W2_bad p1.1, bind_s, semi_bad p1.1]
    exact Or.inr ⟨A2, B2, rfl, rfl, p1, XF_trans x1 p2, YF_trans y1 p3⟩
theorem part_wire {L : Nat} {A B : AM} (h : TK L A B) (hF : FO A B) (hH : HP A B) (hk : 0 ≤ A 20 3) : PO2 L A B A (f_X2_readWire A) ((f_X11_readWire B).bind semiM) := by
  obtain ⟨r1, r2, r3⟩ := HP_1 hH
  obtain ⟨n, hn⟩ : ∃ n : Nat, B 5 1421 = (n : Int) := ⟨(B 5 1421).toNat, by omega⟩
  rw [readWire_V, readWire_W]
  by_cases g : A 34 3 < 10
  · obtain ⟨A1, e1, c1, hh⟩ := nn_both (sort := 1) (n := n) (by decide) (by show 8 + n < 24; omega) h hF hH
    have hsl : o_add 8 (A1 34 3) = ((nfr 1 + n : Nat) : Int) := by rw [c1.1 34 (by decide), r1, hn, o_add_eq (by omega) (by omega)]; show _ = ((8 + n : Nat) : Int); omega
    have hR : f_X11_readNew 1 10 B = f_X11_readNew_26 1 (n : Int) B := m_readNew_lt (sort := 1) (by decide) hn (by omega)
    rw [if_pos g, e1, bind_s, hsl, hR]
    rcases hh with ⟨w, A2, B2, e2, e3, t2, f2, v2, n2⟩ | ⟨A2, B2, v, e2, e3, b1, b2, b3⟩
    · replace e3 : f_X11_readNew_26 1 (n : Int) B = some ((n : Int), B2) := e3
      rw [e2, e3, bind_s, bind_s]
      dsimp only
      rw [if_neg (by decide)]
      exact PO2_pre v2 (wire_1 hH hn (by omega) n2 t2 f2)
    · replace e3 : f_X11_readNew_26 1 (n : Int) B = some (v, B2) := e3
      have b0 := b1.1
      rw [e2, e3, bind_s, bind_s]
      dsimp only
      rw [if_pos rfl, W1_bad b0, bind_s, semi_bad b0]
      exact Or.inr ⟨A2, B2, rfl, rfl, b1, b2, b3⟩
  · obtain ⟨A', B', e1, e2, c1, c2, c3⟩ := full_both (sort := 1) (n := n) (most := 10) (by decide) hn (by omega) h hF hk
    have b0 := c1.1
    replace e2 : f_X11_readNew 1 10 B = some (0, B') := e2
    rw [if_neg g, e1, bind_s, e2, bind_s]
    dsimp only
    rw [if_pos (Or.inl rfl), W1_bad b0, bind_s, semi_bad b0]
    exact Or.inr ⟨A', B', rfl, rfl, c1, c2, c3⟩
