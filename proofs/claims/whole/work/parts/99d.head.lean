/-! YEARS: a STEP up to its ; -/
theorem RF_ys {r s : Nat} {A B A' B' : AM} {kd : Int} (h : RF r (1505 + 9 * s) A B A' B') (h54 : A 54 r = ykind kd) (hk : B 5 (1505 + 9 * s) = kd) : A' 54 r = ykind (cN B' (85 + 9 * s)) ∧ cN B' (85 + 9 * s) = kd := by
  have e : cN B' (85 + 9 * s) = kd := by rw [cN_0, h.2.2.2.2.2 _ (Or.inl (Nat.le_refl _)), hk]
  rw [e, h.1 54 (by decide) (by decide)]
  exact ⟨h54, rfl⟩
theorem ystep_F {A A' B B' : AM} {s r : Nat} (h1 : CF A A') (h2 : MF B B') (h : ystep (cN B) 53 A s r) : ystep (cN B') 53 A' s r := by
  have e5 : B' 5 = B 5 := h2.1 5 (by decide)
  have ec : cN B' = cN B := by unfold cN; rw [e5]
  rw [ec]
  exact ystep_loc rfl rfl (fun i _ _ => by rw [h1.1 _ (by omega)]) (fun _ _ _ => rfl) h
/-- the ; behind the rest -/
theorem rest_semi {L r s : Nat} {A B : AM} {x : Option (Int × AM)} {m : Option AM} {G : AM → AM → Prop} (hG : ∀ A' B', RF r (1505 + 9 * s) A B A' B' → G A' B' → ystep (cN B') 53 A' s r) (hs : s < 30) (h : RO L r (1505 + 9 * s) A B x m G) :
    (∃ A' B', (x.bind fun x2 => f_X9_readStep_196 x2.1 x2.2) = some (1, A') ∧ m.bind semiM = some B' ∧ TK L A' B' ∧ FO A' B' ∧ Adv A A' ∧ RF r (1505 + 9 * s) A B A' B' ∧ ystep (cN B') 53 A' s r) ∨
    (∃ A' B', (x.bind fun x2 => f_X9_readStep_196 x2.1 x2.2) = some (0, A') ∧ m.bind semiM = some B' ∧ FB A' B' ∧ XF A A' ∧ YF B B') := by
  unfold f_X9_readStep_196
  rcases h with ⟨A2, B2, e1, e2, t2, f2, l2, R2, g2⟩ | ⟨A2, B2, e1, e2, p1, p2, p3⟩
  · obtain ⟨y1, y2⟩ := RF_XY (by omega) R2
    rw [e1, e2, bind_s, bind_s]
    dsimp only
    rw [if_neg (show ¬ (1 : Int) = 0 by decide)]
    rcases mb_semi t2 f2 with ⟨A4, B4, e4, e5, t4, f4, c4, m4, v4⟩ | ⟨A4, B4, e4, e5, p1, p2, p3, _⟩
    · rw [e4, bind_s, show semiM B2 = some B4 from e5]
      dsimp only
      rw [if_neg (show ¬ (1 : Int) = 0 by decide)]
      refine Or.inl ⟨A4, B4, rfl, rfl, t4, f4, ?_, RF_trans R2 (RF_C c4 m4), ystep_F c4 m4 (hG _ _ R2 g2)⟩
      unfold Adv at v4 ⊢
      omega
    · rw [e4, bind_s, show semiM B2 = some B4 from e5]
      dsimp only
      rw [if_pos rfl]
      exact Or.inr ⟨A4, B4, rfl, rfl, p1, XF_trans y1 p2, YF_trans y2 p3⟩
  · rw [e1, e2, bind_s, bind_s]
    dsimp only
    rw [if_pos rfl, semi_bad p1.1]
    exact Or.inr ⟨A2, B2, rfl, rfl, p1, p2, p3⟩
/-- the class's reader behind the WORD -/
def RX (K r : Int) (A : AM) : Option (Int × AM) := if ¬ K = 11 then (if ¬ K = 20 then (if K = 14 then f_X9_readStep_160 r A else (if ¬ K = 15 then (if ¬ K = 17 then f_X9_readStep_196 1 A else ((f_X9_readTest r A).bind fun x2 => f_X9_readStep_196 x2.1 x2.2)) else f_X9_readStep_160 r A)) else ((f_X9_readNumber r 99 A).bind fun x3 => f_X9_readStep_196 x3.1 x3.2)) else ((f_X9_readNumber r 40 A).bind fun x4 => f_X9_readStep_196 x4.1 x4.2)
theorem step101 (K r : Int) (A : AM) : f_X9_readStep_101 K r A = (f_X5_advance A).bind fun x1 => RX K r x1 := rfl
theorem x_160 (r : Int) (A : AM) : f_X9_readStep_160 r A = ((f_X1_findWire 23 (A 20 2) A).bind fun x1 => f_X9_readThing r x1.1 x1.2).bind fun x2 => f_X9_readStep_196 x2.1 x2.2 := by
  unfold f_X9_readStep_160
  cases f_X1_findWire 23 (A 20 2) A <;> rfl
theorem rest_all {L r s : Nat} {A B : AM} {kd : Int} (hr : r < 60) (hs : s < 30) (hkd : 0 ≤ kd ∧ kd ≤ 8) (h : TK L A B) (hF : FO A B) (hH : HN A B) (h54 : A 54 r = ykind kd) (hk : B 5 (1505 + 9 * s) = kd) :
    (∃ A' B', RX (ykind kd) (r : Int) A = some (1, A') ∧ (f_X11_readRest ((1505 + 9 * s : Nat) : Int) B).bind semiM = some B' ∧ TK L A' B' ∧ FO A' B' ∧ Adv A A' ∧ RF r (1505 + 9 * s) A B A' B' ∧ ystep (cN B') 53 A' s r) ∨
    (∃ A' B', RX (ykind kd) (r : Int) A = some (0, A') ∧ (f_X11_readRest ((1505 + 9 * s : Nat) : Int) B).bind semiM = some B' ∧ FB A' B' ∧ XF A A' ∧ YF B B') := by
  have hw : 1420 ≤ 1505 + 9 * s ∧ 1505 + 9 * s + 8 < 1775 := by omega
  have i1 : (1506 + 9 * s) = (1505 + 9 * s) + 1 := by omega
  have i5 : (1510 + 9 * s) = (1505 + 9 * s) + 5 := by omega
  have i6 : (1511 + 9 * s) = (1505 + 9 * s) + 6 := by omega
  have i7 : (1512 + 9 * s) = (1505 + 9 * s) + 7 := by omega
  unfold f_X11_readRest
  rw [if_pos (show (0 : Int) ≤ ((1505 + 9 * s : Nat) : Int) ∧ ((1505 + 9 * s : Nat) : Int) < 1775 by omega), tnc, hk]
  have ids : ∀ m : Option AM, (m.bind fun x => some x) = m := fun m => by cases m <;> rfl
  have idle : ∀ K : Int, (kd = 1 ∨ kd = 2 ∨ kd = 5 ∨ kd = 8) → RO L r (1505 + 9 * s) A B (some (1, A)) (some B) (fun _ _ => True) := fun _ _ => Or.inl ⟨A, B, rfl, rfl, h, hF, Int.le_refl _, RF_refl _ _ _ _, trivial⟩
  have ys : ∀ A' B', RF r (1505 + 9 * s) A B A' B' → (kd = 1 ∨ kd = 2 ∨ kd = 5 ∨ kd = 8) → ystep (cN B') 53 A' s r := by
    intro A' B' R hk2
    obtain ⟨k1, k2⟩ := RF_ys R h54 hk
    unfold ystep
    rw [k2] at k1 ⊢
    exact ⟨hkd.1, hkd.2, k1, fun h => by omega, fun h => by omega, fun h => by omega, fun h => by omega⟩
  rcases (by omega : kd = 0 ∨ kd = 1 ∨ kd = 2 ∨ kd = 3 ∨ kd = 4 ∨ kd = 5 ∨ kd = 6 ∨ kd = 7 ∨ kd = 8) with rfl | rfl | rfl | rfl | rfl | rfl | rfl | rfl | rfl
  · rw [if_neg (show ¬ ¬ (0 : Int) = 0 by decide)]
    refine rest_semi (fun A' B' R g => ?_) hs (rest_num (hi := 40) hr hw h hF)
    obtain ⟨k1, k2⟩ := RF_ys R h54 hk
    unfold ystep
    rw [k2] at k1 ⊢
    rw [cN_1, i1]
    exact ⟨by decide, by decide, k1, fun _ => g, fun h => absurd h (by decide), fun h => by omega, fun h => absurd h (by decide)⟩
  · exact rest_semi (fun A' B' R _ => ys A' B' R (by omega)) hs (idle 0 (by omega))
  · exact rest_semi (fun A' B' R _ => ys A' B' R (by omega)) hs (idle 0 (by omega))
  · have hx : RX (ykind 3) (r : Int) A = ((f_X1_findWire 23 (A 20 2) A).bind fun x1 => f_X9_readThing (r : Int) x1.1 x1.2).bind fun x2 => f_X9_readStep_196 x2.1 x2.2 := x_160 _ _
    rw [if_pos (by decide), if_pos (by decide), if_pos (by decide), if_pos rfl, hx]
    refine rest_semi (fun A' B' R g => ?_) hs (rest_wire hr hw h hF hH)
    obtain ⟨k1, k2⟩ := RF_ys R h54 hk
    have hY := (RF_XY hw.1 R).2
    unfold ystep
    rw [k2] at k1 ⊢
    rw [cN_1, i1, cN_w, hY.2.2.1 1 (by decide)]
    exact ⟨by decide, by decide, k1, fun h => absurd h (by decide), fun h => absurd h (by decide), fun _ => g, fun h => absurd h (by decide)⟩
  · have hx : RX (ykind 4) (r : Int) A = ((f_X1_findWire 23 (A 20 2) A).bind fun x1 => f_X9_readThing (r : Int) x1.1 x1.2).bind fun x2 => f_X9_readStep_196 x2.1 x2.2 := x_160 _ _
    rw [if_pos (by decide), if_pos (by decide), if_pos (by decide), if_neg (by decide), if_neg (show ¬ ¬ (4 : Int) = 4 by decide), hx]
    refine rest_semi (fun A' B' R g => ?_) hs (rest_wire hr hw h hF hH)
    obtain ⟨k1, k2⟩ := RF_ys R h54 hk
    have hY := (RF_XY hw.1 R).2
    unfold ystep
    rw [k2] at k1 ⊢
    rw [cN_1, i1, cN_w, hY.2.2.1 1 (by decide)]
    exact ⟨by decide, by decide, k1, fun h => absurd h (by decide), fun h => absurd h (by decide), fun _ => g, fun h => absurd h (by decide)⟩
  · exact rest_semi (fun A' B' R _ => ys A' B' R (by omega)) hs (idle 0 (by omega))
  · rw [if_pos (by decide), if_pos (by decide), if_neg (show ¬ ¬ (6 : Int) = 6 by decide), ids]
    refine rest_semi (fun A' B' R g => ?_) hs (rest_test hr hw h hF hH)
    obtain ⟨k1, k2⟩ := RF_ys R h54 hk
    have hY := (RF_XY hw.1 R).2
    obtain ⟨⟨g1, g2, g3⟩, ⟨g4, g5⟩, g6, g7⟩ := g
    unfold ystep
    rw [k2] at k1 ⊢
    rw [cN_1, i1, cN_5, i5, cN_6, i6, cN_7, i7, cN_c, hY.2.2.1 2 (by decide)]
    exact ⟨by decide, by decide, k1, fun h => absurd h (by decide), fun h => absurd h (by decide), fun h => by omega, fun _ => ⟨g1, g2, g3, g4, g5, g6, g7⟩⟩
  · rw [if_pos (by decide), if_neg (show ¬ ¬ (7 : Int) = 7 by decide)]
    refine rest_semi (fun A' B' R g => ?_) hs (rest_num (hi := 99) hr hw h hF)
    obtain ⟨k1, k2⟩ := RF_ys R h54 hk
    unfold ystep
    rw [k2] at k1 ⊢
    rw [cN_1, i1]
    exact ⟨by decide, by decide, k1, fun h => absurd h (by decide), fun _ => g, fun h => by omega, fun h => absurd h (by decide)⟩
  · exact rest_semi (fun A' B' R _ => ys A' B' R (by omega)) hs (idle 0 (by omega))
/-! YEARS: the head of a STEP -/
def YQ (D s r : Nat) (A B : AM) : Prop := (A 53 1 = (s : Int) ∧ B 0 26 = (s : Int) ∧ s ≤ 30) ∧ (A 53 2 = (r : Int) ∧ r + D ≤ 2 * s) ∧ A 53 10 = (D : Int) ∧ D ≤ 3
def FRM (s r D : Nat) (A B A' B' : AM) : Prop := XF A A' ∧ YF B B' ∧ (∀ x j, 54 ≤ x → x ≤ 59 → j < r → A' x j = A x j) ∧ (∀ j, j < D → A' 60 j = A 60 j) ∧ ∀ k, k < 1505 + 9 * s → B' 5 k = B 5 k
theorem FRM_trans {s r D s2 r2 D2 : Nat} {A B A2 B2 A3 B3 : AM} (hs : s ≤ s2) (hr : r ≤ r2) (hD : D ≤ D2) (h1 : FRM s r D A B A2 B2) (h2 : FRM s2 r2 D2 A2 B2 A3 B3) : FRM s r D A B A3 B3 :=
  ⟨XF_trans h1.1 h2.1, YF_trans h1.2.1 h2.2.1, fun x j a b d => (h2.2.2.1 x j a b (by omega)).trans (h1.2.2.1 x j a b d), fun j a => (h2.2.2.2.1 j (by omega)).trans (h1.2.2.2.1 j a), fun k a => (h2.2.2.2.2 k (by omega)).trans (h1.2.2.2.2 k a)⟩
theorem begins_t {K : Int} (A : AM) : f_X9_beginsStep K A = some (if 0 ≤ stepI K then 1 else 0, A) := by
  unfold f_X9_beginsStep stepI
  by_cases h11 : K = 11
  · rw [if_pos h11, if_pos h11]; rfl
  rw [if_neg h11, if_neg h11]
  by_cases h12 : K = 12
  · rw [if_pos h12, if_pos h12]; rfl
  rw [if_neg h12, if_neg h12]
  by_cases h13 : K = 13
  · rw [if_pos h13, if_pos h13]; rfl
  rw [if_neg h13, if_neg h13]
  by_cases h14 : K = 14
  · rw [if_pos h14, if_pos h14]; rfl
  rw [if_neg h14, if_neg h14]
  by_cases h15 : K = 15
  · rw [if_pos h15, if_pos h15]; rfl
  rw [if_neg h15, if_neg h15]
  by_cases h16 : K = 16
  · rw [if_pos h16, if_pos h16]; rfl
  rw [if_neg h16, if_neg h16]
  by_cases h17 : K = 17
  · rw [if_pos h17, if_pos h17]; rfl
  rw [if_neg h17, if_neg h17]
  by_cases h18 : K = 18
  · rw [if_pos h18, if_neg (by omega)]
  rw [if_neg h18]
  by_cases h19 : K = 19
  · rw [if_pos h19, if_neg (by omega)]
  rw [if_neg h19]
  by_cases h20 : K = 20
  · rw [if_pos h20, if_pos h20]; rfl
  rw [if_neg h20, if_neg h20]
  by_cases h21 : K = 21
  · rw [if_pos h21, if_neg (by omega)]
  rw [if_neg h21]
  by_cases h22 : K = 22
  · rw [if_pos h22, if_pos h22]; rfl
  rw [if_neg h22, if_neg h22]; rfl
theorem stepI_kind {K : Int} (h : 0 ≤ stepI K) : stepI K ≤ 8 ∧ ykind (stepI K) = K ∧ (stepI K = 6 ↔ K = 17) ∧ (stepI K = 7 ↔ K = 20) ∧ 11 ≤ K := by
  unfold stepI at h ⊢
  by_cases h11 : K = 11
  · subst h11; decide
  rw [if_neg h11] at h ⊢
  by_cases h12 : K = 12
  · subst h12; decide
  rw [if_neg h12] at h ⊢
  by_cases h13 : K = 13
  · subst h13; decide
  rw [if_neg h13] at h ⊢
  by_cases h14 : K = 14
  · subst h14; decide
  rw [if_neg h14] at h ⊢
  by_cases h15 : K = 15
  · subst h15; decide
  rw [if_neg h15] at h ⊢
  by_cases h16 : K = 16
  · subst h16; decide
  rw [if_neg h16] at h ⊢
  by_cases h17 : K = 17
  · subst h17; decide
  rw [if_neg h17] at h ⊢
  by_cases h20 : K = 20
  · subst h20; decide
  rw [if_neg h20] at h ⊢
  by_cases h22 : K = 22
  · subst h22; decide
  rw [if_neg h22] at h
  exact absurd h (by decide)
/-- once there is a FAULT in a STEP of the model -/
theorem rs170_bad {h : Int → AM → Option AM} {a3 : Int} {w : Nat} {B : AM} (hw : w + 8 < 1775) (hb : 0 < B 0 12) : f_X11_readStep_170 h a3 (w : Int) B = some (am_upd B 5 (w + 8) (B 0 26)) := by
  have e8 : o_add (w : Int) 8 = ((w + 8 : Nat) : Int) := by rw [o_add_eq (by omega) (by omega)]; omega
  have h8 : (0 : Int) ≤ ((w + 8 : Nat) : Int) ∧ ((w + 8 : Nat) : Int) < 1775 := by omega
  unfold f_X11_readStep_170
  rw [e8]
  by_cases g : a3 = 0
  · rw [if_pos g, if_pos h8, zlet_eq, tnc]
  · obtain ⟨v, _, ev⟩ := any_isEnd B
    obtain ⟨u, eu⟩ := any_isSign 59 B
    rw [if_neg g, ev, bind_s]
    dsimp only
    rw [m_must_bad _ hb, bind_s, eu, bind_s]
    dsimp only
    rw [m_must_bad _ hb, bind_s, if_pos h8, zlet_eq, tnc]
theorem rs142_bad {h : Int → AM → Option AM} {n w : Nat} {a1 a3 : Int} {B : AM} (hw : w + 8 < 1775) (hb : 0 < B 0 12) : f_X11_readStep_142 h (n + 1) a1 a3 (w : Int) B = some (am_upd B 5 (w + 8) (B 0 26)) := by
  rw [f_X11_readStep_142]
  by_cases g : a3 = 0
  · rw [if_pos g, rs170_bad hw hb]
  · rw [if_neg g, if_pos (by omega), rs170_bad hw hb]
theorem rs83_bad {h : Int → AM → Option AM} {a1 a2 a3 : Int} {B : AM} (hb : 0 < B 0 12) : f_X11_readStep_83 h a1 a2 a3 B = some B := by
  unfold f_X11_readStep_83
  rw [if_neg (by omega)]
theorem rs57_bad {h : Int → AM → Option AM} {a1 a2 a3 : Int} {B : AM} (hb : 0 < B 0 12) : f_X11_readStep_57 h a1 a2 a3 B = some B := by
  unfold f_X11_readStep_57
  rw [if_pos (by omega), rs83_bad hb]
theorem rs31_bad {h : Int → AM → Option AM} {a1 a2 a3 : Int} {B : AM} (hb : 0 < B 0 12) : f_X11_readStep_31 h a1 a2 a3 B = some B := by
  unfold f_X11_readStep_31
  rw [if_pos (by omega), rs57_bad hb]
theorem FB_5 {A B : AM} {k : Nat} {v : Int} (h : FB A B) : FB A (am_upd B 5 k v) := by
  unfold FB at h ⊢
  rw [am_upd_cell (show 0 ≠ 5 by decide)]
  exact h
