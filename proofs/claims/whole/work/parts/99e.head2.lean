/-! YEARS: the head of a STEP, the end of a body -/
theorem step73 {A : AM} {K : Int} {D s r blk : Nat} (hb : blk = 0 ∨ blk = 1 ∧ D < 3) (h1 : A 53 1 = (s : Int)) (h2 : A 53 2 = (r : Int)) (h10 : A 53 10 = (D : Int)) (hs : s < 30) (hr : r < 60) :
    ∃ A', f_X9_readStep_73 K (blk : Int) A = f_X9_readStep_101 K (r : Int) A' ∧ (∀ x, x < 53 ∨ 60 < x → A' x = A x) ∧ (∀ x j, 54 ≤ x → x ≤ 59 → j ≠ r → A' x j = A x j) ∧ A' 53 1 = ((s + 1 : Nat) : Int) ∧ A' 53 2 = ((r + 1 : Nat) : Int) ∧ A' 53 10 = ((D + blk : Nat) : Int) ∧ A' 54 r = K ∧ (∀ j, j < D → A' 60 j = A 60 j) ∧ (blk = 1 → A' 60 D = (r : Int)) := by
  unfold f_X9_readStep_73
  rw [zlet_eq, h1, o_succ (by omega)]
  obtain ⟨A2, e2, c1, c2, c3, c4, c5⟩ := x_addRow (A := am_upd A 53 1 ((s + 1 : Nat) : Int)) (r := r) (K := K) (by rw [am_upd_ne (by omega)]; exact h2) hr
  rw [e2, bind_s]
  dsimp only
  have d1 : A2 53 1 = ((s + 1 : Nat) : Int) := by rw [c3 1 (by decide), am_upd_self]
  have d10 : A2 53 10 = (D : Int) := by rw [c3 10 (by decide), am_upd_ne (by omega)]; exact h10
  rcases hb with rfl | ⟨rfl, hD⟩
  · rw [if_pos (show ((0 : Nat) : Int) = 0 from rfl)]
    refine ⟨A2, rfl, fun x hx => by rw [c1 x (by omega), am_upd_cell (by omega)], fun x j a b d => by rw [c2 x j a b d, am_upd_cell (by omega)], d1, c4, d10, c5, fun j _ => by rw [c1 60 (by omega), am_upd_cell (by omega)], fun h => absurd h (by decide)⟩
  · rw [if_neg (by decide), x_openRow d10 hD, bind_s]
    refine ⟨_, rfl, fun x hx => ?_, fun x j a b d => ?_, ?_, ?_, ?_, ?_, fun j hj => ?_, fun _ => ?_⟩
    · rw [am_upd_cell (by omega), am_upd_cell (by omega), c1 x (by omega), am_upd_cell (by omega)]
    · rw [am_upd_cell (by omega), am_upd_cell (by omega), c2 x j a b d, am_upd_cell (by omega)]
    · rw [am_upd_ne (by omega), am_upd_cell (by decide)]; exact d1
    · rw [am_upd_ne (by omega), am_upd_cell (by decide)]; exact c4
    · rw [am_upd_self]
    · rw [am_upd_cell (by decide), am_upd_cell (by decide)]; exact c5
    · rw [am_upd_cell (by decide), am_upd_ne (by omega), c1 60 (by omega), am_upd_cell (by omega)]
    · rw [am_upd_cell (by decide), am_upd_self]
theorem head_both {L D s r : Nat} {A B : AM} (h : Int → AM → Option AM) (t : TK L A B) (f : FO A B) (hH : HN A B) (hq : YQ D s r A B) :
    (∃ (kd : Int) (blk : Nat) (A' B' : AM), (blk = 0 ∧ ¬ (kd = 6 ∨ kd = 7) ∨ blk = 1 ∧ (kd = 6 ∨ kd = 7) ∧ D < 3) ∧ s < 30 ∧ f_X9_readStep A = some (1, A') ∧ fo_X11_readStep h (D : Int) B = f_X11_readStep_142 h zB (D : Int) (blk : Int) ((1505 + 9 * s : Nat) : Int) B' ∧ TK L A' B' ∧ FO A' B' ∧ Adv A A' ∧ YQ (D + blk) (s + 1) (r + 1) A' B' ∧ ystep (cN B') 53 A' s r ∧ B' 5 (1505 + 9 * s) = kd ∧ (blk = 1 → A' 60 D = (r : Int)) ∧ FRM s r D A B A' B') ∨
    (∃ A' B', f_X9_readStep A = some (0, A') ∧ fo_X11_readStep h (D : Int) B = some B' ∧ FB A' B' ∧ XF A A' ∧ YF B B') := by
  obtain ⟨⟨q1, q2, q3⟩, ⟨q4, q5⟩, q6, q7⟩ := hq
  have hb := f.2.2
  unfold f_X9_readStep fo_X11_readStep
  rw [begins_t, bind_s, m_stepWord t, bind_s]
  dsimp only
  by_cases gk : 0 ≤ stepI (A 20 3)
  · obtain ⟨k1, k2, k3, k4, k5⟩ := stepI_kind gk
    generalize hkd : stepI (A 20 3) = kd at *
    obtain ⟨blk, hblk⟩ : ∃ blk : Nat, (blk = 0 ∧ ¬ (kd = 6 ∨ kd = 7) ∨ blk = 1 ∧ (kd = 6 ∨ kd = 7)) := by
      by_cases g : kd = 6 ∨ kd = 7
      · exact ⟨1, Or.inr ⟨rfl, g⟩⟩
      · exact ⟨0, Or.inl ⟨rfl, g⟩⟩
    have hm : (if kd = 6 then f_X11_readStep_22 h (D : Int) kd 1 B else (if ¬ kd = 7 then f_X11_readStep_22 h (D : Int) kd 0 B else f_X11_readStep_22 h (D : Int) kd 1 B)) = f_X11_readStep_31 h (D : Int) kd (blk : Int) B := by
      unfold f_X11_readStep_22
      simp only [if_pos gk]
      rcases hblk with ⟨rfl, g⟩ | ⟨rfl, g⟩
      · rw [if_neg (fun h => g (Or.inl h)), if_pos (fun h => g (Or.inr h))]; rfl
      · by_cases g6 : kd = 6
        · rw [if_pos g6]; rfl
        · rw [if_neg g6, if_neg (show ¬ ¬ kd = 7 from fun h => h (g.resolve_left g6))]; rfl
    have hx : (if A 20 3 = 17 then f_X9_readStep_51 (A 20 3) 1 A else (if ¬ A 20 3 = 20 then f_X9_readStep_51 (A 20 3) 0 A else f_X9_readStep_51 (A 20 3) 1 A)) = f_X9_readStep_51 (A 20 3) (blk : Int) A := by
      rcases hblk with ⟨rfl, g⟩ | ⟨rfl, g⟩
      · rw [if_neg (fun h => g (Or.inl (k3.mpr h))), if_pos (fun h => g (Or.inr (k4.mpr h)))]; rfl
      · by_cases g6 : kd = 6
        · rw [if_pos (k3.mp g6)]; rfl
        · rw [if_neg (fun h => g6 (k3.mpr h)), if_neg (show ¬ ¬ A 20 3 = 20 from fun h => h (k4.mp (g.resolve_left g6)))]; rfl
    rw [if_pos gk, if_pos (show ¬ (1 : Int) = 0 by decide), hm, hx]
    by_cases hs : s < 30
    · rw [if_pos (show A 53 1 < 30 by omega)]
      unfold f_X11_readStep_31
      rw [if_neg (show ¬ ¬ B 0 12 = 0 from fun h => h hb), if_pos (show ¬ B 0 26 = 30 by omega)]
      unfold f_X9_readStep_51 f_X11_readStep_57
      rw [if_neg (show ¬ ¬ B 0 12 = 0 from fun h => h hb)]
      by_cases gD : blk = 1 ∧ ¬ D < 3
      · obtain ⟨rfl, gD⟩ := gD
        obtain ⟨A', B', e1, e2, c1, c2, c3, _⟩ := bad_at 7 (by decide) t f (by have := kw_word t (by omega); omega)
        rw [if_neg (show ¬ ((1 : Nat) : Int) = 0 by decide), if_neg (show ¬ A 53 10 < 3 by omega), if_neg (show ¬ ((1 : Nat) : Int) = 0 by decide), if_neg (show ¬ ¬ (D : Int) = 3 by omega), e1, e2, bind_s, bind_s, rs83_bad c1.1]
        dsimp only
        rw [if_pos (Or.inl rfl)]
        exact Or.inr ⟨A', B', rfl, rfl, c1, c2, c3⟩
      · have hb2 : blk = 0 ∨ blk = 1 ∧ D < 3 := by omega
        have hx2 : (if (blk : Int) = 0 then f_X9_readStep_73 (A 20 3) (blk : Int) A else (if A 53 10 < 3 then f_X9_readStep_73 (A 20 3) (blk : Int) A else ((f_X5_refuse 7 A).bind fun x1 => if x1.1 = 0 ∨ x1.1 = 1 then some (x1.1, x1.2) else none))) = f_X9_readStep_73 (A 20 3) (blk : Int) A := by
          rcases hb2 with rfl | ⟨rfl, g⟩
          · rw [if_pos (show ((0 : Nat) : Int) = 0 from rfl)]
          · rw [if_neg (by decide), if_pos (show A 53 10 < 3 by omega)]
        have hm2 : (if (blk : Int) = 0 then f_X11_readStep_83 h (D : Int) kd (blk : Int) B else (if ¬ (D : Int) = 3 then f_X11_readStep_83 h (D : Int) kd (blk : Int) B else ((f_X11_fail 7 (B 0 15) B).bind fun x1 => f_X11_readStep_83 h (D : Int) kd (blk : Int) x1))) = f_X11_readStep_83 h (D : Int) kd (blk : Int) B := by
          rcases hb2 with rfl | ⟨rfl, g⟩
          · rw [if_pos (show ((0 : Nat) : Int) = 0 from rfl)]
          · rw [if_neg (by decide), if_pos (show ¬ (D : Int) = 3 by omega)]
        rw [hx2, hm2]
        obtain ⟨A3, e3, d1, d2, d3, d4, d5, d6, d7, d8⟩ := step73 (K := A 20 3) hb2 q1 q4 q6 hs (by omega)
        rw [e3, step101]
        unfold f_X11_readStep_83
        have ew : o_add 1505 (o_mul 9 (s : Int)) = ((1505 + 9 * s : Nat) : Int) := by rw [o_mul_eq (by omega) (by omega), o_add_eq (by omega) (by omega)]; omega
        rw [if_pos (show B 0 12 ≤ 0 by omega), zlet_eq, q2, o_succ (by omega), ew]
        have t3 : TK L A3 (am_upd B 0 26 ((s + 1 : Nat) : Int)) := TK_cong t (d1 20 (by omega)) (d1 21 (by omega)) (d1 22 (by omega)) (am_upd_cell (by decide)) (fun j hj => am_upd_ne (by omega))
        have f3 : FO A3 (am_upd B 0 26 ((s + 1 : Nat) : Int)) := FO_cong f (d1 20 (by omega)) (am_upd_ne (by omega))
        obtain ⟨A4, B4, x1, x2, c4, m4, t4, v4⟩ := TK_adv t3
        have f4 := FO_F f3 c4 m4
        have hadv : Adv A A4 := by
          unfold Adv at v4 ⊢
          rw [d1 20 (by omega)] at v4
          exact v4
        rw [x1, x2, bind_s, bind_s, if_pos (show (0 : Int) ≤ ((1505 + 9 * s : Nat) : Int) ∧ ((1505 + 9 * s : Nat) : Int) < 1775 by omega), zlet_eq, tnc]
        have t5 : TK L A4 (am_upd B4 5 (1505 + 9 * s) kd) := TK_cong t4 rfl rfl rfl (am_upd_cell (by decide)) (fun j _ => by rw [am_upd_cell (by decide)])
        have f5 : FO A4 (am_upd B4 5 (1505 + 9 * s) kd) := FO_cong f4 rfl (by rw [am_upd_cell (by decide)])
        have xA3 : XF A A3 := ⟨fun x a b d => d1 x (by omega), by rw [d1 20 (by omega)], by rw [d1 20 (by omega)]⟩
        have xA4 : XF A A4 := XF_trans xA3 (CF_XF c4)
        have yB5 : YF B (am_upd B4 5 (1505 + 9 * s) kd) := YF_trans (YF_f _ (by omega)) (YF_trans (MF_YF m4) (YF_c _ (by omega)))
        have H5 := HN_XY hH xA4 yB5
        have h54 : A4 54 r = ykind kd := by rw [c4.1 54 (by decide), d6, k2]
        have hassoc : ∀ (x : Option AM) (k : AM → Option AM), (x.bind fun x5 => (f_X11_isSign 59 x5).bind fun x6 => (f_X11_must x6.1 x6.2).bind fun x7 => k x7) = (x.bind semiM).bind k := by
          intro x k
          cases x with
          | none => rfl
          | some a =>
            show ((f_X11_isSign 59 a).bind fun x2 => (f_X11_must x2.1 x2.2).bind fun x3 => k x3) = ((f_X11_isSign 59 a).bind fun x2 => f_X11_must x2.1 x2.2).bind k
            cases f_X11_isSign 59 a <;> rfl
        rw [hassoc]
        rcases rest_all (s := s) (r := r) (kd := kd) (by omega) hs ⟨gk, k1⟩ t5 f5 H5 h54 (am_upd_self _ _ _ _) with ⟨A6, B6, x3, x4, t6, f6, v6, R6, ys⟩ | ⟨A6, B6, x3, x4, p1, p2, p3⟩
        · rw [k2] at x3
          obtain ⟨w1, w2⟩ := RF_XY (by omega) R6
          rw [x3, x4, bind_s]
          have a53 : ∀ j, A6 53 j = A3 53 j := fun j => by rw [R6.1 53 (by decide) (by decide), c4.1 53 (by decide)]
          refine Or.inl ⟨kd, blk, A6, B6, by omega, hs, rfl, rfl, t6, f6, Adv_trans hadv v6, ⟨⟨by rw [a53]; exact d3, ?_, by omega⟩, ⟨by rw [a53]; exact d4, by omega⟩, by rw [a53]; exact d5, by omega⟩, ys, ?_, fun hb1 => ?_, XF_trans xA4 w1, YF_trans yB5 w2, fun x j a b d => ?_, fun j hj => ?_, fun k hk => ?_⟩
          · rw [R6.2.2.2.2.1 26 (by omega), am_upd_cell (by decide), m4.2 26 (by omega), am_upd_self]
          · rw [R6.2.2.2.2.2 _ (Or.inl (Nat.le_refl _)), am_upd_self]
          · rw [R6.1 60 (by decide) (by omega), c4.1 60 (by decide)]; exact d8 hb1
          · rcases (by omega : x = 54 ∨ x = 59 ∨ (55 ≤ x ∧ x ≤ 58)) with hx | hx | hx
            · rw [R6.1 x (by omega) (by omega), c4.1 x (by omega)]; exact d2 x j a b (by omega)
            · rw [R6.1 x (by omega) (by omega), c4.1 x (by omega)]; exact d2 x j a b (by omega)
            · rw [R6.2.1 x j hx.1 hx.2 (by omega), c4.1 x (by omega)]; exact d2 x j a b (by omega)
          · rw [R6.1 60 (by decide) (by omega), c4.1 60 (by decide)]; exact d7 j hj
          · rw [R6.2.2.2.2.2 k (by omega), am_upd_ne (by omega), m4.1 5 (by decide), am_upd_cell (by decide)]
        · rw [k2] at x3
          rw [x3, x4, bind_s, zB_succ, rs142_bad (by omega) p1.1]
          exact Or.inr ⟨A6, _, rfl, rfl, FB_5 p1, XF_trans xA4 p2, YF_trans yB5 (YF_trans p3 (YF_c _ (by omega)))⟩
    · obtain ⟨A', B', e1, e2, c1, c2, c3, _⟩ := bad_at 6 (by decide) t f (by have := kw_word t (by omega); omega)
      rw [if_neg (show ¬ A 53 1 < 30 by omega), e1, bind_s]
      unfold f_X11_readStep_31
      rw [if_neg (show ¬ ¬ B 0 12 = 0 from fun h => h hb), if_neg (show ¬ ¬ B 0 26 = 30 by omega), e2, bind_s, rs57_bad c1.1]
      dsimp only
      rw [if_pos (Or.inl rfl)]
      exact Or.inr ⟨A', B', rfl, rfl, c1, c2, c3⟩
  · obtain ⟨A', B', e1, e2, c1, c2, c3, _⟩ := bad_2 t f
    rw [if_neg gk, if_neg (show ¬ ¬ (0 : Int) = 0 by decide), e1, bind_s, if_neg (show ¬ stepI (A 20 3) = 6 by omega), if_pos (show ¬ stepI (A 20 3) = 7 by omega)]
    unfold f_X11_readStep_22
    rw [if_neg gk, e2, bind_s, rs31_bad c1.1]
    dsimp only
    rw [if_pos (Or.inl rfl)]
    exact Or.inr ⟨A', B', rfl, rfl, c1, c2, c3⟩
/-- the end of a body -/
theorem end_both {L D e m r w : Nat} {A B : AM} (h : Int → AM → Option AM) (t : TK L A B) (f : FO A B) (hk : A 20 3 = 21) (hq : YQ (D + 1) e m A B) (h60 : A 60 D = (r : Int)) (hrm : r < m) (hw : 1420 ≤ w ∧ w + 8 < 1775) :
    (∃ A' B', f_X9_readEnd A = some (1, A') ∧ f_X11_readStep_170 h 1 (w : Int) B = some B' ∧ TK L A' B' ∧ FO A' B' ∧ Adv A A' ∧ YQ D e (m + 1) A' B' ∧ (A' 54 m = 21 ∧ A' 59 m = (r : Int) ∧ A' 59 r = (m : Int)) ∧ B' 5 (w + 8) = (e : Int) ∧ XF A A' ∧ YF B B' ∧ (∀ x j, 54 ≤ x → x ≤ 59 → j < m → ¬ (x = 59 ∧ j = r) → A' x j = A x j) ∧ (∀ j, A' 60 j = A 60 j) ∧ ∀ k, k ≠ w + 8 → B' 5 k = B 5 k) ∨
    (∃ A' B', f_X9_readEnd A = some (0, A') ∧ f_X11_readStep_170 h 1 (w : Int) B = some B' ∧ FB A' B' ∧ XF A A' ∧ YF B B') := by
  obtain ⟨⟨q1, q2, q3⟩, ⟨q4, q5⟩, q6, q7⟩ := hq
  have hb := f.2.2
  have e8 : o_add (w : Int) 8 = ((w + 8 : Nat) : Int) := by rw [o_add_eq (by omega) (by omega)]; omega
  have h8 : (0 : Int) ≤ ((w + 8 : Nat) : Int) ∧ ((w + 8 : Nat) : Int) < 1775 := by omega
  unfold f_X9_readEnd f_X11_readStep_170
  rw [if_pos (show 1 ≤ A 53 10 by omega), if_neg (show ¬ (1 : Int) = 0 by decide), m_isEnd t, bind_s, if_pos hk]
  dsimp only
  rw [m_must_1 hb]
  obtain ⟨A1, B1, x1, x2, c1, m1, t1, v1⟩ := TK_adv t
  have f1 := FO_F f c1 m1
  obtain ⟨A2, x3, d1, d2, d3, d4, d5⟩ := x_addRow (A := A1) (r := m) (K := 21) (by rw [c1.1 53 (by decide)]; exact q4) (by omega)
  have hc := x_closeRow (A := A2) (D := D) (m := m) (o := r) (by rw [d3 10 (by decide), c1.1 53 (by decide)]; exact q6) (by omega) (by rw [d1 60 (by omega), c1.1 60 (by decide)]; exact h60) (by omega) (by omega)
  rw [x1, x2, bind_s, bind_s, x3, bind_s]
  dsimp only
  rw [hc, bind_s]
  generalize hA3 : am_upd (am_upd (am_upd A2 53 10 (D : Int)) 59 m (r : Int)) 59 r (m : Int) = A3
  have a3c : ∀ x, x ≠ 53 → x ≠ 59 → A3 x = A2 x := fun x h1 h2 => by rw [← hA3, am_upd_cell h2, am_upd_cell h2, am_upd_cell h1]
  have xc : ∀ x, x < 53 ∨ 60 < x → A3 x = A1 x := fun x hx => by rw [a3c x (by omega) (by omega)]; exact d1 x (by omega)
  have t3 : TK L A3 B1 := TK_cong t1 (xc 20 (by omega)) (xc 21 (by omega)) (xc 22 (by omega)) rfl (fun _ _ => rfl)
  have f3 : FO A3 B1 := FO_cong f1 (xc 20 (by omega)) rfl
  have x31 : XF A A3 := XF_trans (CF_XF c1) ⟨fun x a b d => xc x (by omega), by rw [xc 20 (by omega)], by rw [xc 20 (by omega)]⟩
  have hassoc : ∀ (k : AM → Option AM), ((f_X11_isSign 59 B1).bind fun x5 => (f_X11_must x5.1 x5.2).bind fun x6 => k x6) = (semiM B1).bind k := by
    intro k
    show ((f_X11_isSign 59 B1).bind fun x2 => (f_X11_must x2.1 x2.2).bind fun x3 => k x3) = ((f_X11_isSign 59 B1).bind fun x2 => f_X11_must x2.1 x2.2).bind k
    cases f_X11_isSign 59 B1 <;> rfl
  rw [hassoc]
  rcases mb_semi t3 f3 with ⟨A4, B4, e4, e5, t4, f4, c4, m4, v4⟩ | ⟨A4, B4, e4, e5, p1, p2, p3, _⟩
  · rw [e4, bind_s, show semiM B1 = some B4 from e5, bind_s, e8, if_pos h8, zlet_eq, tnc]
    dsimp only
    rw [if_pos (Or.inr rfl)]
    have b26 : B4 0 26 = (e : Int) := by rw [m4.2 26 (by omega), m1.2 26 (by omega)]; exact q2
    have a53 : ∀ j, A4 53 j = A3 53 j := fun j => by rw [c4.1 53 (by decide)]
    have a353 : ∀ j, j ≠ 10 → A3 53 j = A2 53 j := fun j hj => by rw [← hA3, am_upd_cell (by decide), am_upd_cell (by decide), am_upd_ne (fun h => hj h.2)]
    rw [b26]
    refine Or.inl ⟨A4, _, rfl, rfl, TK_cong t4 rfl rfl rfl (am_upd_cell (by decide)) (fun j _ => by rw [am_upd_cell (by decide)]), FO_cong f4 rfl (by rw [am_upd_cell (by decide)]), ?_, ⟨⟨?_, ?_, q3⟩, ⟨?_, by omega⟩, ?_, by omega⟩, ⟨?_, ?_, ?_⟩, am_upd_self _ _ _ _, XF_trans x31 (CF_XF c4), YF_trans (MF_YF m1) (YF_trans (MF_YF m4) (YF_c _ (by omega))), fun x j a b d g => ?_, fun j => ?_, fun k hk2 => ?_⟩
    · refine Adv_trans v1 ?_
      unfold Adv at v4 ⊢
      rw [xc 20 (by omega)] at v4
      exact v4
    · rw [a53, a353 1 (by decide), d3 1 (by decide), c1.1 53 (by decide)]; exact q1
    · rw [am_upd_cell (by decide)]; exact b26
    · rw [a53, a353 2 (by decide)]; exact d4
    · rw [a53, ← hA3, am_upd_cell (by decide), am_upd_cell (by decide), am_upd_self]
    · rw [c4.1 54 (by decide), a3c 54 (by decide) (by decide)]; exact d5
    · rw [c4.1 59 (by decide), ← hA3, am_upd_ne (by omega), am_upd_self]
    · rw [c4.1 59 (by decide), ← hA3, am_upd_self]
    · rw [c4.1 x (by omega)]
      by_cases h59 : x = 59
      · subst h59
        rw [← hA3, am_upd_ne (fun h => g ⟨rfl, h.2⟩), am_upd_ne (by omega), am_upd_cell (by decide), d2 59 j (by decide) (by decide) (by omega), c1.1 59 (by decide)]
      · rw [a3c x (by omega) h59, d2 x j a b (by omega), c1.1 x (by omega)]
    · rw [c4.1 60 (by decide), a3c 60 (by decide) (by decide), d1 60 (by omega), c1.1 60 (by decide)]
    · rw [am_upd_ne (fun h => hk2 h.2), m4.1 5 (by decide), m1.1 5 (by decide)]
  · rw [e4, bind_s, show semiM B1 = some B4 from e5, bind_s, e8, if_pos h8, zlet_eq, tnc]
    dsimp only
    rw [if_pos (Or.inl rfl)]
    exact Or.inr ⟨A4, _, rfl, rfl, FB_5 p1, XF_trans x31 p2, YF_trans (MF_YF m1) (YF_trans p3 (YF_c _ (by omega)))⟩
