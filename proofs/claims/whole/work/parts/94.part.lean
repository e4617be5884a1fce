/-! HOUSE: PARTS on both sides -/
theorem NmF_XY {s : Nat} {w : Int} {A B A' B' : AM} (h : NmF s w A B A' B') : XF A A' ∧ YF B B' := by
  obtain ⟨h1, h2⟩ := h
  refine ⟨XF_trans ⟨fun x _ h34 _ => am_upd_cell (by omega), by rw [am_upd_cell (by decide)], by rw [am_upd_cell (by decide)]⟩ (CF_XF h1), YF_trans ⟨fun x _ _ h8 => am_upd_cell h8, fun j _ _ _ => by rw [am_upd_cell (by decide)], fun k _ => by rw [am_upd_cell (by decide)], fun i hi => by rw [am_upd_ne (by omega)]⟩ (MF_YF h2)⟩
theorem NmF_F {s : Nat} {w : Int} {A0 B0 A B A' B' : AM} (h : NmF s w A0 B0 A B) (h1 : CF A A') (h2 : MF B B') : NmF s w A0 B0 A' B' := ⟨CF_trans h.1 h1, MF_trans h.2 h2⟩
theorem NmF_A {s : Nat} {w : Int} {A0 B0 A B : AM} (h : NmF s w A0 B0 A B) {x : Nat} (h1 : x ≠ 20) (h2 : x ≠ 43) : A x = A0 x := by rw [h.1.1 x h1, am_upd_cell h2]
theorem NmF_43 {s : Nat} {w : Int} {A0 B0 A B : AM} (h : NmF s w A0 B0 A B) (i : Nat) : A 43 i = if i = s then w else A0 43 i := by
  rw [h.1.1 43 (by decide), am_upd_eq]
  by_cases g : i = s
  · rw [if_pos g, if_pos ⟨rfl, g⟩]
  · rw [if_neg g, if_neg (fun h => g h.2)]
theorem NmF_5 {s : Nat} {w : Int} {A0 B0 A B : AM} (h : NmF s w A0 B0 A B) : B 5 = B0 5 := by rw [h.2.1 5 (by decide), am_upd_cell (by decide)]
theorem NmF_8 {s : Nat} {w : Int} {A0 B0 A B : AM} (h : NmF s w A0 B0 A B) (i : Nat) : B 8 (96 + i) = if i = s then w else B0 8 (96 + i) := by
  rw [h.2.1 8 (by decide), am_upd_eq]
  by_cases g : i = s
  · rw [if_pos g, if_pos ⟨rfl, by omega⟩]
  · rw [if_neg g, if_neg (by omega)]
theorem NmF_25 {s : Nat} {w : Int} {A0 B0 A B : AM} (h : NmF s w A0 B0 A B) : B 0 25 = B0 0 25 := by rw [h.2.2 25 (by decide), am_upd_cell (by decide)]
/-- what comes of the rest of a PART -/
def PO2 (L : Nat) (A0 B0 A : AM) (x : Option (Int × AM)) (m : Option AM) : Prop :=
  (∃ A' B', x = some (1, A') ∧ m = some B' ∧ TK L A' B' ∧ FO A' B' ∧ HP A' B' ∧ XF A0 A' ∧ YF B0 B' ∧ Adv A A') ∨ (∃ A' B', x = some (0, A') ∧ m = some B' ∧ FB A' B' ∧ XF A0 A' ∧ YF B0 B')
theorem PO2_pre {L : Nat} {A0 B0 A A2 : AM} {x : Option (Int × AM)} {m : Option AM} (h : Adv A A2) (h2 : PO2 L A0 B0 A2 x m) : PO2 L A0 B0 A x m := by
  rcases h2 with ⟨A', B', a1, a2, a3, a4, a5, a6, a7, a8⟩ | h2
  · exact Or.inl ⟨A', B', a1, a2, a3, a4, a5, a6, a7, Adv_trans h a8⟩
  · exact Or.inr h2
theorem kw_word {L : Nat} {A B : AM} (h : TK L A B) (hk : 0 ≤ A 20 3) : A 20 0 = 1 := by
  by_cases g : A 20 0 = 1
  · exact g
  · have := h.2.2.2.2.2.2.1 g; omega
theorem FO_cong {A A' B B' : AM} (h : FO A B) (h1 : A' 20 = A 20) (h2 : B' 0 12 = B 0 12) : FO A' B' := by
  unfold FO at h ⊢
  rw [h1, h2]
  exact h
theorem m_readNew {sort n : Nat} {most : Int} {B : AM} (hs : sort < 3) (hn : B 5 (1420 + sort) = (n : Int)) : f_X11_readNew (sort : Int) most B = if (n : Int) = most then (f_X11_fail 6 (B 0 15) B).bind fun x2 => f_X11_readNew_26 (sort : Int) (n : Int) x2 else f_X11_readNew_26 (sort : Int) (n : Int) B := by
  have a : o_add 1420 (sort : Int) = ((1420 + sort : Nat) : Int) := by rw [o_add_eq (by omega) (by omega)]; omega
  unfold f_X11_readNew
  rw [a, if_pos (by omega), tnc, hn]
  by_cases g : (n : Int) = most
  · rw [if_neg (fun h => h g), if_pos g]
  · rw [if_pos g, if_neg g]
theorem m_readNew_lt {sort n : Nat} {most : Int} {B : AM} (hs : sort < 3) (hn : B 5 (1420 + sort) = (n : Int)) (h : ¬ (n : Int) = most) : f_X11_readNew (sort : Int) most B = f_X11_readNew_26 (sort : Int) (n : Int) B := by
  rw [m_readNew hs hn, if_neg h]
/-- the count is full -/
theorem full_both {L sort n : Nat} {most : Int} {A B : AM} (hs : sort < 3) (hn : B 5 (1420 + sort) = (n : Int)) (hm : (n : Int) = most) (h : TK L A B) (hF : FO A B) (hk : 0 ≤ A 20 3) : ∃ A' B', f_X5_refuse 6 A = some (0, A') ∧ f_X11_readNew (sort : Int) most B = some (0, B') ∧ FB A' B' ∧ XF A A' ∧ YF B B' := by
  obtain ⟨A', B', e1, e2, c1, c2, c3, _⟩ := bad_at 6 (by decide) h hF (by have := kw_word h hk; omega)
  refine ⟨A', B', e1, ?_, c1, c2, c3⟩
  rw [m_readNew hs hn, if_pos hm, e2, bind_s, readNew26_bad c1.1]
theorem part_room {L : Nat} {A B : AM} (h : TK L A B) (hF : FO A B) (hH : HP A B) (hk : 0 ≤ A 20 3) : PO2 L A B A (f_X2_readRoom A) ((f_X11_readRoom B).bind semiM) := by
  obtain ⟨r1, r2, r3⟩ := HP_0 hH
  obtain ⟨n, hn⟩ : ∃ n : Nat, B 5 1420 = (n : Int) := ⟨(B 5 1420).toNat, by omega⟩
  unfold f_X2_readRoom f_X11_readRoom
  by_cases g : A 34 2 < 8
  · obtain ⟨A1, e1, c1, hh⟩ := nn_both (sort := 0) (n := n) (by decide) (by show 0 + n < 24; omega) h hF hH
    have hsl : A1 34 2 = ((nfr 0 + n : Nat) : Int) := by rw [c1.1 34 (by decide), r1, hn, show nfr 0 + n = n from Nat.zero_add n]
    have hR : f_X11_readNew 0 8 B = f_X11_readNew_26 0 (n : Int) B := m_readNew_lt (sort := 0) (by decide) hn (by omega)
    rw [if_pos g, e1, bind_s, hsl, hR]
    rcases hh with ⟨w, A2, B2, e2, e3, t2, f2, v2, n2⟩ | ⟨A2, B2, v, e2, e3, b1, b2, b3⟩
    · rw [show nfr 0 + n = n from Nat.zero_add n] at n2
      have k5 := NmF_5 n2
      replace e3 : f_X11_readNew_26 0 (n : Int) B = some ((n : Int), B2) := e3
      rw [e2, e3, bind_s, bind_s]
      dsimp only
      rw [if_neg (by decide), if_neg (show ¬ ¬ B2 0 12 = 0 from fun h => h f2.2.2), zlet_eq, tn1420, bind_s, k5, hn, o_succ (by omega)]
      have t3 : TK L A2 (am_upd B2 5 1420 ((n + 1 : Nat) : Int)) := TK_cong t2 rfl rfl rfl (am_upd_cell (by decide)) (fun j _ => by rw [am_upd_cell (by decide)])
      have f3 : FO A2 (am_upd B2 5 1420 ((n + 1 : Nat) : Int)) := FO_cong f2 rfl (by rw [am_upd_cell (by decide)])
      obtain ⟨x2, y2⟩ := NmF_XY n2
      rcases mb_semi t3 f3 with ⟨A4, B4, e4, e5, t4, f4, c4, m4, v4⟩ | ⟨A4, B4, e4, e5, b1, b2, b3, _⟩
      · rw [e4, bind_s, show semiM (am_upd B2 5 1420 ((n + 1 : Nat) : Int)) = some B4 from e5]
        dsimp only
        rw [if_pos (by decide), zlet_eq]
        have q34 : A4 34 = A 34 := by rw [c4.1 34 (by decide)]; exact NmF_A n2 (by decide) (by decide)
        have q5 : B4 5 = am_upd B2 5 1420 ((n + 1 : Nat) : Int) 5 := m4.1 5 (by decide)
        rw [q34, r1, hn, o_succ (by omega)]
        refine Or.inl ⟨_, B4, rfl, rfl, TK_cong t4 (am_upd_cell (by decide)) (am_upd_cell (by decide)) (am_upd_cell (by decide)) rfl (fun _ _ => rfl), FO_cong f4 (am_upd_cell (by decide)) rfl, ?_, XF_trans x2 (XF_trans (CF_XF c4) ⟨fun x _ hx _ => am_upd_cell (by omega), by rw [am_upd_cell (by decide)], by rw [am_upd_cell (by decide)]⟩), YF_trans y2 (YF_trans (YF_c _ (by omega)) (MF_YF m4)), ?_⟩
        · unfold HP
          rw [m4.2 25 (by decide), am_upd_cell (show 0 ≠ 5 by decide), NmF_25 n2]
          refine HQ_room (w := w) (n := n) hH hn (by omega) (fun j hj => ?_) (am_upd_self _ _ _ _) (fun x h1 h2 => ?_) (fun i => ?_) ?_ (fun k hk => ?_) (fun i => ?_)
          · rw [am_upd_ne (fun h => hj h.2), q34]
          · rw [am_upd_cell (by omega), c4.1 x (by omega)]; exact NmF_A n2 (by omega) (by omega)
          · rw [am_upd_cell (by decide), c4.1 43 (by decide)]; exact NmF_43 n2 i
          · show B4 5 (1420 + 0) = _
            rw [q5, am_upd_self]
          · show B4 5 (1420 + k) = B 5 (1420 + k)
            rw [q5, am_upd_ne (by omega), k5]
          · show B4 8 (96 + i) = if i = n then w else B 8 (96 + i)
            rw [m4.1 8 (by decide), am_upd_cell (by decide)]; exact NmF_8 n2 i
        · refine Adv_trans v2 ?_
          unfold Adv at v4 ⊢
          rw [am_upd_cell (by decide)]
          exact v4
      · rw [e4, bind_s, show semiM (am_upd B2 5 1420 ((n + 1 : Nat) : Int)) = some B4 from e5]
        dsimp only
        rw [if_neg (show ¬ ¬ (0 : Int) = 0 by decide)]
        exact Or.inr ⟨A4, B4, rfl, rfl, b1, XF_trans x2 b2, YF_trans y2 (YF_trans (YF_c _ (by omega)) b3)⟩
    · have b0 := b1.1
      replace e3 : f_X11_readNew_26 0 (n : Int) B = some (v, B2) := e3
      rw [e2, e3, bind_s, bind_s]
      dsimp only
      rw [if_pos (by decide), if_pos (by omega), bind_s, semi_bad b0]
      exact Or.inr ⟨A2, B2, rfl, rfl, b1, b2, b3⟩
  · obtain ⟨A', B', e1, e2, c1, c2, c3⟩ := full_both (sort := 0) (n := n) (most := 8) (by decide) hn (by omega) h hF hk
    have b0 := c1.1
    replace e2 : f_X11_readNew 0 8 B = some (0, B') := e2
    rw [if_neg g, e1, bind_s, e2, bind_s]
    dsimp only
    rw [if_pos (Or.inl rfl), if_pos (by omega), bind_s, semi_bad b0]
    exact Or.inr ⟨A', B', rfl, rfl, c1, c2, c3⟩
/-- POWER, ODDS: cell j of the model, field f of the class -/
theorem HQ_once {A A5 : AM} {c c2 nm : Nat → Int} {tl tl2 v : Int} {j f : Nat} (hj : (j = 3 ∧ f = 0 ∧ 1 ≤ v ∧ v ≤ 99) ∨ (j = 4 ∧ f = 1 ∧ 0 ≤ v ∧ v ≤ 16)) (hH : HQ A c nm tl) (ha : A 34 f = -1) (e34 : ∀ i, A5 34 i = if i = f then v else A 34 i) (ex : ∀ x, 35 ≤ x → x ≤ 43 → A5 x = A x) (hc : ∀ k, c2 k = if k = j then v else c k) (htl : tl2 = tl + (if j = 3 then 8 else 16)) : HQ A5 c2 nm tl2 := by
  obtain ⟨⟨a, b, d⟩, ⟨f1, f2, f3, f4, f5, f6⟩, ⟨g1, g2, g3⟩, hw, hk, hz, ⟨s1, s2⟩, hN⟩ := hH
  have ec : ∀ k, k ≠ 3 → k ≠ 4 → c2 k = c k := fun k h3 h4 => by rw [hc k, if_neg (by omega)]
  have ea : ∀ i, 2 ≤ i → A5 34 i = A 34 i := fun i hi => by rw [e34 i, if_neg (by omega)]
  have hu : ∀ i, usedN c2 i ↔ usedN c i := fun i => by
    unfold usedN
    rw [ec 0 (by decide) (by decide), ec 1 (by decide) (by decide), ec 2 (by decide) (by decide)]
  refine ⟨⟨by rw [ec 0 (by decide) (by decide), ea 2 (by decide)]; exact a, by rw [ec 1 (by decide) (by decide), ea 3 (by decide)]; exact b, by rw [ec 2 (by decide) (by decide), ea 4 (by decide)]; exact d⟩, ⟨by rw [ea 5 (by decide)]; exact f1, by rw [ec 5 (by decide) (by decide)]; exact f2, by rw [ea 6 (by decide)]; exact f3, by rw [ec 6 (by decide) (by decide)]; exact f4, by rw [ea 19 (by decide)]; exact f5, by rw [ec 83 (by decide) (by decide)]; exact f6⟩, ?_, fun x hx => ?_, fun x hx => ?_, fun x hx => ?_, ?_, fun i hi => ?_⟩
  · rcases hj with ⟨rfl, rfl, h1, h2⟩ | ⟨rfl, rfl, h1, h2⟩
    · have a0 : A5 34 0 = v := by rw [e34 0, if_pos rfl]
      have a1 : A5 34 1 = A 34 1 := by rw [e34 1, if_neg (by decide)]
      have c3 : c2 3 = v := by rw [hc 3, if_pos rfl]
      have c4 : c2 4 = c 4 := by rw [hc 4, if_neg (by decide)]
      rw [if_pos rfl] at htl
      rw [if_pos ha] at g3
      rw [a0, a1, c3, c4]
      refine ⟨Or.inr ⟨rfl, h1, h2⟩, g2, ?_⟩
      rw [if_neg (by omega), htl, g3]; omega
    · have a0 : A5 34 1 = v := by rw [e34 1, if_pos rfl]
      have a1 : A5 34 0 = A 34 0 := by rw [e34 0, if_neg (by decide)]
      have c3 : c2 4 = v := by rw [hc 4, if_pos rfl]
      have c4 : c2 3 = c 3 := by rw [hc 3, if_neg (by decide)]
      rw [if_neg (by decide)] at htl
      rw [if_pos ha] at g3
      rw [a0, a1, c3, c4]
      refine ⟨g1, Or.inr ⟨rfl, h1, h2⟩, ?_⟩
      rw [if_neg (show ¬ v = -1 by omega), htl, g3]; omega
  · rw [ec 1 (by decide) (by decide)] at hx
    rw [ex 35 (by decide) (by decide), ex 36 (by decide) (by decide), ex 37 (by decide) (by decide), ec (7 + x) (by omega) (by omega), ec (17 + x) (by omega) (by omega), ec (27 + x) (by omega) (by omega), ec (37 + x) (by omega) (by omega), ec 0 (by decide) (by decide)]
    exact hw x hx
  · rw [ec 2 (by decide) (by decide)] at hx
    rw [ex 38 (by decide) (by decide), ex 39 (by decide) (by decide), ex 40 (by decide) (by decide), ex 41 (by decide) (by decide), ex 42 (by decide) (by decide), ec (47 + x) (by omega) (by omega), ec (53 + x) (by omega) (by omega), ec (59 + x) (by omega) (by omega), ec (65 + x) (by omega) (by omega), ec 0 (by decide) (by decide)]
    exact hk x hx
  · rw [ec (71 + x) (by omega) (by omega), ec (77 + x) (by omega) (by omega)]; exact hz x hx
  · rw [ea 7 (by decide), ea 8 (by decide), ec 1 (by decide) (by decide), ec 2 (by decide) (by decide)]; exact ⟨s1, s2⟩
  · rw [ex 43 (by decide) (by decide)]
    exact ⟨fun h => (hN i hi).1 ((hu i).mp h), fun h => (hN i hi).2 (fun h2 => h ((hu i).mpr h2))⟩
theorem has_t3 : ∀ p q : Bool, o_and (o_shr ((if p then 0 else 8) + (if q then 0 else 16)) 3) 1 = if p then 0 else 1 := by decide +kernel
theorem has_t4 : ∀ p q : Bool, o_and (o_shr ((if p then 0 else 8) + (if q then 0 else 16)) 4) 1 = if q then 0 else 1 := by decide +kernel
theorem or_t3 : ∀ q : Bool, o_or (0 + (if q then 0 else 16)) (o_shl 1 3) = (0 + (if q then 0 else 16)) + 8 := by decide +kernel
theorem or_t4 : ∀ p : Bool, o_or ((if p then 0 else 8) + 0) (o_shl 1 4) = ((if p then 0 else 8) + 0) + 16 := by decide +kernel
/-- whether the WORD came already, in the model -/
theorem m_told_once {A B : AM} {j f : Nat} (hj : (j = 3 ∧ f = 0) ∨ (j = 4 ∧ f = 1)) (hH : HP A B) : f_X11_has (B 0 25) (j : Int) B = some (if A 34 f = -1 then 0 else 1, B) ∧ (A 34 f = -1 → o_or (B 0 25) (o_shl 1 (j : Int)) = B 0 25 + (if j = 3 then 8 else 16)) := by
  have g3 := hH.2.2.1.2.2
  have e : B 0 25 = (if decide (A 34 0 = -1) then 0 else 8) + (if decide (A 34 1 = -1) then 0 else 16) := by
    rw [g3]
    simp only [decide_eq_true_eq]
  unfold f_X11_has
  rcases hj with ⟨rfl, rfl⟩ | ⟨rfl, rfl⟩
  · rw [e, show ((3 : Nat) : Int) = 3 from rfl, has_t3]
    by_cases g : A 34 0 = -1
    · refine ⟨by rw [decide_eq_true g, if_pos rfl, if_pos g]; rfl, fun _ => ?_⟩
      rw [decide_eq_true g]
      exact or_t3 _
    · refine ⟨by rw [decide_eq_false g, if_neg g]; rfl, fun h => absurd h g⟩
  · rw [e, show ((4 : Nat) : Int) = 4 from rfl, has_t4]
    by_cases g : A 34 1 = -1
    · refine ⟨by rw [decide_eq_true g, if_pos g]; rfl, fun _ => ?_⟩
      rw [decide_eq_true g]
      exact or_t4 _
    · refine ⟨by rw [decide_eq_false g, if_neg g]; rfl, fun h => absurd h g⟩
/-- the class's reader of POWER or ODDS -/
def onceX (f : Nat) (lo hi : Int) (A : AM) : Option (Int × AM) := if A 34 f = (-1) then ((f_X5_advance A).bind fun x1 => (f_X5_takeNumber lo hi x1).bind fun x2 => zlet (am_upd x2.2 34 f x2.1) fun M3 => if M3 34 f = (-1) then some (0, M3) else some (1, M3)) else ((f_X5_refuse 5 A).bind fun x4 => if x4.1 = 0 ∨ x4.1 = 1 then some (x4.1, x4.2) else none)
theorem part_once {L j f : Nat} {lo hi : Int} {A B : AM} (hj : (j = 3 ∧ f = 0 ∧ lo = 1 ∧ hi = 99) ∨ (j = 4 ∧ f = 1 ∧ lo = 0 ∧ hi = 16)) (h : TK L A B) (hF : FO A B) (hH : HP A B) (hk : 0 ≤ A 20 3) :
    PO2 L A B A ((onceX f lo hi A).bind fun x1 => if x1.1 = 0 then some (0, x1.2) else ((f_X5_takeSemicolon x1.2).bind fun x2 => if x2.1 = 0 then some (0, x2.2) else some (1, x2.2))) ((f_X11_readOnce (j : Int) lo hi B).bind semiM) := by
  obtain ⟨u1, u2⟩ := m_told_once (j := j) (f := f) (by rcases hj with ⟨h1, h2, _⟩ | ⟨h1, h2, _⟩; exact Or.inl ⟨h1, h2⟩; exact Or.inr ⟨h1, h2⟩) hH
  unfold onceX f_X11_readOnce
  rw [u1, bind_s]
  dsimp only
  by_cases g : A 34 f = -1
  · rw [if_pos g, if_pos g, if_pos rfl]
    unfold f_X11_readOnce_20
    have hb := hF.2.2
    rw [if_pos (by omega), u2 g, zlet_eq]
    generalize hB1 : am_upd B 0 25 (B 0 25 + (if j = 3 then 8 else 16)) = B1
    have b1 : ∀ x, x ≠ 0 → B1 x = B x := fun x hx => by rw [← hB1, am_upd_cell hx]
    have b0 : ∀ i, i ≠ 25 → B1 0 i = B 0 i := fun i hi => by rw [← hB1, am_upd_ne (fun h => hi h.2)]
    have b25 : B1 0 25 = B 0 25 + (if j = 3 then 8 else 16) := by rw [← hB1, am_upd_self]
    have yB1 : YF B B1 := by rw [← hB1]; exact YF_f _ (by omega)
    have t1 : TK L A B1 := TK_cong h rfl rfl rfl (b1 4 (by decide)) (fun i hi => b0 i (by omega))
    have f1 : FO A B1 := FO_cong hF rfl (b0 12 (by decide))
    obtain ⟨A2, B2, e1, e2, c2, m2, t2, v2⟩ := TK_adv t1
    have f2 := FO_F f1 c2 m2
    rw [e1, e2, bind_s, bind_s]
    have a5 : o_add 1420 (j : Int) = ((1420 + j : Nat) : Int) := by rw [o_add_eq (by omega) (by omega)]; omega
    rcases nb_count lo hi t2 f2 with ⟨v, A3, B3, g1, g2, e3, e4, t3, f3, c3, m3, v3⟩ | ⟨A3, B3, e3, e4, p1, p2, p3, _⟩
    · rw [e3, e4, bind_s, bind_s, zlet_eq]
      dsimp only
      have hv : ¬ v = -1 := by omega
      rw [am_upd_self, if_neg hv, bind_s, a5, if_pos (show (0 : Int) ≤ ((1420 + j : Nat) : Int) ∧ ((1420 + j : Nat) : Int) < 1775 by omega), zlet_eq, tnc, bind_s]
      dsimp only
      rw [if_neg (by decide)]
      have t4 : TK L (am_upd A3 34 f v) (am_upd B3 5 (1420 + j) v) := TK_cong t3 (am_upd_cell (by decide)) (am_upd_cell (by decide)) (am_upd_cell (by decide)) (am_upd_cell (by decide)) (fun i _ => by rw [am_upd_cell (by decide)])
      have f4 : FO (am_upd A3 34 f v) (am_upd B3 5 (1420 + j) v) := FO_cong f3 (am_upd_cell (by decide)) (by rw [am_upd_cell (by decide)])
      have q5 : ∀ i, B3 5 i = B 5 i := fun i => by rw [m3.1 5 (by decide), m2.1 5 (by decide), b1 5 (by decide)]
      have qA : ∀ x, x ≠ 20 → A3 x = A x := fun x hx => by rw [c3.1 x hx, c2.1 x hx]
      have x3 : XF A (am_upd A3 34 f v) := XF_trans (XF_trans (CF_XF c2) (CF_XF c3)) ⟨fun x _ hx _ => am_upd_cell (by omega), by rw [am_upd_cell (by decide)], by rw [am_upd_cell (by decide)]⟩
      have y3 : YF B (am_upd B3 5 (1420 + j) v) := YF_trans yB1 (YF_trans (MF_YF m2) (YF_trans (MF_YF m3) (YF_c _ (by omega))))
      have h4 : HP (am_upd A3 34 f v) (am_upd B3 5 (1420 + j) v) := by
        unfold HP
        rw [am_upd_cell (show 0 ≠ 5 by decide), am_upd_cell (show 8 ≠ 5 by decide), m3.1 8 (by decide), m2.1 8 (by decide), b1 8 (by decide), m3.2 25 (by decide), m2.2 25 (by decide)]
        refine HQ_once (j := j) (f := f) (v := v) (by omega) hH g (fun i => ?_) (fun x h1 h2 => ?_) (fun k => ?_) b25
        · rw [am_upd_eq, qA 34 (by decide)]
          by_cases e : i = f
          · rw [if_pos ⟨rfl, e⟩, if_pos e]
          · rw [if_neg (fun h => e h.2), if_neg e]
        · rw [am_upd_cell (by omega)]; exact qA x (by omega)
        · show am_upd B3 5 (1420 + j) v 5 (1420 + k) = _
          rw [am_upd_eq]
          by_cases e : k = j
          · rw [if_pos ⟨rfl, by omega⟩, if_pos e]
          · rw [if_neg (by omega), if_neg e, q5]
      rcases mb_semi t4 f4 with ⟨A5, B5, e5, e6, t5, f5, c5, m5, v5⟩ | ⟨A5, B5, e5, e6, p1, p2, p3, _⟩
      · rw [e5, bind_s, show semiM (am_upd B3 5 (1420 + j) v) = some B5 from e6]
        dsimp only
        rw [if_neg (by decide)]
        refine Or.inl ⟨A5, B5, rfl, rfl, t5, f5, HP_F h4 c5 m5, XF_trans x3 (CF_XF c5), YF_trans y3 (MF_YF m5), Adv_trans v2 (Adv_trans v3 ?_)⟩
        unfold Adv at v5 ⊢
        rw [am_upd_cell (show 20 ≠ 34 by decide)] at v5
        exact v5
      · rw [e5, bind_s, show semiM (am_upd B3 5 (1420 + j) v) = some B5 from e6]
        dsimp only
        rw [if_pos rfl]
        exact Or.inr ⟨A5, B5, rfl, rfl, p1, XF_trans x3 p2, YF_trans y3 p3⟩
    · rw [e3, e4, bind_s, bind_s, zlet_eq]
      dsimp only
      have p0 := p1.1
      rw [am_upd_self, if_pos rfl, bind_s, a5, if_pos (show (0 : Int) ≤ ((1420 + j : Nat) : Int) ∧ ((1420 + j : Nat) : Int) < 1775 by omega), zlet_eq, tnc, bind_s]
      dsimp only
      rw [if_pos rfl, semi_bad (by rw [am_upd_cell (by decide)]; exact p0)]
      refine Or.inr ⟨_, _, rfl, rfl, ?_, XF_trans (CF_XF c2) (XF_trans p2 ⟨fun x _ hx _ => am_upd_cell (by omega), by rw [am_upd_cell (by decide)], by rw [am_upd_cell (by decide)]⟩), YF_trans yB1 (YF_trans (MF_YF m2) (YF_trans p3 (YF_c _ (by omega))))⟩
      unfold FB at p1 ⊢
      rw [am_upd_cell (show 20 ≠ 34 by decide), am_upd_cell (show 0 ≠ 5 by decide)]
      exact p1
  · obtain ⟨A', B', e1, e2, c1, c2, c3, _⟩ := bad_at 5 (by decide) h hF (by have := kw_word h hk; omega)
    have b0 := c1.1
    rw [if_neg g, if_neg g, if_neg (by decide), e1, e2, bind_s, bind_s]
    dsimp only
    rw [if_pos (Or.inl rfl), bind_s]
    dsimp only
    rw [if_pos rfl]
    unfold f_X11_readOnce_20
    rw [if_neg (by omega), bind_s, semi_bad b0]
    exact Or.inr ⟨A', B', rfl, rfl, c1, c2, c3⟩
