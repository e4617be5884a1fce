/-! YEARS: what stands behind the WORD of a STEP -/
def HN (A B : AM) : Prop := (A 23 3 = B 5 1 ∧ 0 ≤ B 5 1 ∧ B 5 1 ≤ 10) ∧ (A 23 4 = B 5 2 ∧ 0 ≤ B 5 2 ∧ B 5 2 ≤ 6) ∧ (∀ i : Nat, (i : Int) < B 5 1 → A 32 (8 + i) = B 8 (8 + i)) ∧ (∀ i : Nat, (i : Int) < B 5 2 → A 32 (18 + i) = B 8 (18 + i))
theorem HN_XY {A B A' B' : AM} (h : HN A B) (hx : XF A A') (hy : YF B B') : HN A' B' := by
  obtain ⟨h1, h2, h3, h4⟩ := h
  have e23 : A' 23 = A 23 := hx.1 23 (by decide) (by decide) (by decide)
  have e32 : A' 32 = A 32 := hx.1 32 (by decide) (by decide) (by decide)
  unfold HN
  rw [e23, e32, hy.2.2.1 1 (by decide), hy.2.2.1 2 (by decide)]
  refine ⟨h1, h2, fun i hi => ?_, fun i hi => ?_⟩
  · rw [hy.2.2.2 (8 + i) (by omega)]; exact h3 i hi
  · rw [hy.2.2.2 (18 + i) (by omega)]; exact h4 i hi
/-- what the rest of STEP, row r and cells from w on, may touch -/
def RF (r w : Nat) (A B A' B' : AM) : Prop := (∀ x, x ≠ 20 → x < 55 ∨ 58 < x → A' x = A x) ∧ (∀ x j, 55 ≤ x → x ≤ 58 → j ≠ r → A' x j = A x j) ∧ (A' 20 7 = A 20 7 ∧ A' 20 10 = A 20 10) ∧ (∀ x, x ≠ 0 → x ≠ 5 → B' x = B x) ∧ (∀ j, j < 12 ∨ 19 < j → B' 0 j = B 0 j) ∧ ∀ k, k ≤ w ∨ w + 8 ≤ k → B' 5 k = B 5 k
theorem RF_refl (r w : Nat) (A B : AM) : RF r w A B A B := ⟨fun _ _ _ => rfl, fun _ _ _ _ _ => rfl, ⟨rfl, rfl⟩, fun _ _ _ => rfl, fun _ _ => rfl, fun _ _ => rfl⟩
theorem RF_trans {r w : Nat} {A B A2 B2 A3 B3 : AM} (h1 : RF r w A B A2 B2) (h2 : RF r w A2 B2 A3 B3) : RF r w A B A3 B3 :=
  ⟨fun x a b => (h2.1 x a b).trans (h1.1 x a b), fun x j a b d => (h2.2.1 x j a b d).trans (h1.2.1 x j a b d), ⟨h2.2.2.1.1.trans h1.2.2.1.1, h2.2.2.1.2.trans h1.2.2.1.2⟩, fun x a b => (h2.2.2.2.1 x a b).trans (h1.2.2.2.1 x a b), fun j a => (h2.2.2.2.2.1 j a).trans (h1.2.2.2.2.1 j a), fun k a => (h2.2.2.2.2.2 k a).trans (h1.2.2.2.2.2 k a)⟩
theorem RF_C {r w : Nat} {A B A' B' : AM} (h1 : CF A A') (h2 : MF B B') : RF r w A B A' B' :=
  ⟨fun x a _ => h1.1 x a, fun x j a b _ => by rw [h1.1 x (by omega)], ⟨h1.2 7 (by decide), h1.2 10 (by decide)⟩, fun x a _ => h2.1 x a, fun j a => h2.2 j (by omega), fun k _ => by rw [h2.1 5 (by decide)]⟩
theorem RF_a {r w x : Nat} (A B : AM) (v : Int) (hx : 55 ≤ x ∧ x ≤ 58) : RF r w A B (am_upd A x r v) B :=
  ⟨fun y _ h => am_upd_cell (by omega), fun y j _ _ hj => am_upd_ne (fun h => hj h.2), ⟨by rw [am_upd_cell (by omega)], by rw [am_upd_cell (by omega)]⟩, fun _ _ _ => rfl, fun _ _ => rfl, fun _ _ => rfl⟩
theorem RF_b {r w k : Nat} (A B : AM) (v : Int) (hk : w < k ∧ k < w + 8) : RF r w A B A (am_upd B 5 k v) :=
  ⟨fun _ _ _ => rfl, fun _ _ _ _ _ => rfl, ⟨rfl, rfl⟩, fun y _ h => am_upd_cell h, fun j _ => by rw [am_upd_cell (by decide)], fun i h => am_upd_ne (by omega)⟩
theorem RF_XY {r w : Nat} {A B A' B' : AM} (hw : 1420 ≤ w) (h : RF r w A B A' B') : XF A A' ∧ YF B B' := by
  obtain ⟨h1, h2, h3, h4, h5, h6⟩ := h
  exact ⟨⟨fun x a b d => h1 x a (by omega), h3.1, h3.2⟩, ⟨fun x a b _ => h4 x a b, fun j a _ _ => h5 j (by omega), fun k a => h6 k (by omega), fun i _ => by rw [h4 8 (by decide) (by decide)]⟩⟩
theorem XF_row {A : AM} {x : Nat} (j : Nat) (v : Int) (h : (34 ≤ x ∧ x ≤ 44) ∨ (53 ≤ x ∧ x ≤ 60)) : XF A (am_upd A x j v) := ⟨fun y a b d => am_upd_cell (by omega), by rw [am_upd_cell (by omega)], by rw [am_upd_cell (by omega)]⟩
/-- a NAME that must be told: v is what both find -/
theorem thing_core {L r sort : Nat} {A B : AM} {v : Int} (hr : r < 60) (h : TK L A B) (hF : FO A B) (hv : -1 ≤ v) (hN : nameP A → f_X11_named 0 (sort : Int) B = some (v, B)) :
    (∃ (k : Nat) (A' B' : AM), v = (k : Int) ∧ f_X9_readThing (r : Int) v A = some (1, A') ∧ f_X11_readTold 0 (sort : Int) B = some ((k : Int), B') ∧ TK L A' B' ∧ FO A' B' ∧ CF (am_upd A 56 r (k : Int)) A' ∧ MF B B' ∧ Adv A A') ∨
    (∃ (u : Int) (A' B' : AM), f_X9_readThing (r : Int) v A = some (0, A') ∧ f_X11_readTold 0 (sort : Int) B = some (u, B') ∧ FB A' B' ∧ XF A A' ∧ YF B B') := by
  have hF2 := hF.2.2
  unfold f_X9_readThing f_X11_readTold f_X11_told
  rw [if_neg (show ¬ ¬ B 0 12 = 0 from fun h => h hF2)]
  by_cases g : nameP A
  · rw [x_isName_t g, bind_s, m_isName_t h g, bind_s]
    dsimp only
    rw [if_pos (show ¬ (1 : Int) = 0 by decide), if_pos (show ¬ (1 : Int) = 0 by decide)]
    unfold f_X11_told_18
    rw [if_pos (show B 0 12 ≤ 0 by omega), hN g, bind_s]
    dsimp only
    by_cases gv : 0 ≤ v
    · obtain ⟨k, rfl⟩ : ∃ k : Nat, v = (k : Int) := ⟨v.toNat, by omega⟩
      rw [if_pos (show ¬ (k : Int) = -1 by omega), if_pos (show (0 : Int) ≤ (r : Int) ∧ (r : Int) < 60 by omega), tnc, zlet_eq, if_pos gv]
      unfold f_X11_told_47
      rw [o_max_eq, show max (0 : Int) (k : Int) = (k : Int) by omega, bind_s]
      dsimp only
      rw [m_must_1 hF2]
      have t1 : TK L (am_upd A 56 r (k : Int)) B := TK_cong h (am_upd_cell (by decide)) (am_upd_cell (by decide)) (am_upd_cell (by decide)) rfl (fun _ _ => rfl)
      obtain ⟨A', B', e1, e2, c1, m1, t2, v2⟩ := TK_adv t1
      rw [e1, e2, bind_s, bind_s]
      refine Or.inl ⟨k, A', B', rfl, rfl, rfl, t2, FO_F (FO_cong hF (am_upd_cell (by decide)) rfl) c1 m1, c1, m1, ?_⟩
      unfold Adv at v2 ⊢
      rw [am_upd_cell (show 20 ≠ 56 by decide)] at v2
      exact v2
    · rw [if_neg (show ¬ ¬ v = -1 by omega), if_neg gv]
      obtain ⟨A', B', e1, e2, c1, c2, c3, _⟩ := bad_at 3 (by decide) h hF (by have := g.1; omega)
      rw [e1, e2, bind_s, bind_s]
      dsimp only
      rw [if_pos (Or.inl rfl)]
      unfold f_X11_told_47
      rw [bind_s]
      dsimp only
      rw [m_must_bad _ c1.1, bind_s]
      exact Or.inr ⟨_, A', B', rfl, rfl, c1, c2, c3⟩
  · rw [x_isName_f g, bind_s, m_isName_f h g, bind_s]
    dsimp only
    rw [if_neg (show ¬ ¬ (0 : Int) = 0 by decide), if_neg (show ¬ ¬ (0 : Int) = 0 by decide)]
    obtain ⟨A', B', e1, e2, c1, c2, c3, _⟩ := bad_2 h hF
    rw [e1, e2, bind_s, bind_s]
    dsimp only
    rw [if_pos (Or.inl rfl)]
    unfold f_X11_told_18
    have := c1.1
    rw [if_neg (by omega), bind_s]
    dsimp only
    rw [m_must_bad _ c1.1, bind_s]
    exact Or.inr ⟨_, A', B', rfl, rfl, c1, c2, c3⟩
theorem find_w {L : Nat} {A B : AM} (h : TK L A B) (hH : HN A B) : ∃ v, f_X1_findWire 23 (A 20 2) A = some (v, A) ∧ -1 ≤ v ∧ v < B 5 1 + (if v = -1 then 1 else 0) ∧ (nameP A → f_X11_named 0 1 B = some (v, B)) := by
  obtain ⟨⟨r1, r2, r3⟩, _, hw, _⟩ := hH
  obtain ⟨n, hn⟩ : ∃ n : Nat, B 5 1 = (n : Int) := ⟨(B 5 1).toNat, by omega⟩
  obtain ⟨u, u1, u2⟩ := x_findName (A := A) (q := 23) (first := 8) (n := n) (w := A 20 2) (by omega)
  have hr := FN_r u1
  refine ⟨u, ?_, hr.1, ?_, fun g => ?_⟩
  · unfold f_X1_findWire
    rw [r1, hn, show f_X1_findName 23 8 (n : Int) (A 20 2) A = some (u, A) from u2, bind_s]
  · by_cases e : u = -1
    · rw [if_pos e]; omega
    · rw [if_neg e]; omega
  · obtain ⟨v, v1, v2⟩ := m_named (B := B) (b := 0) (sort := 1) (n := n) (by decide) (by decide) hn (by show 8 + n ≤ 24; omega)
    have ew := (h.2.2.2.2.2.1 g.1).2.2 g.2.2
    have euv : u = v := by
      refine FN_uniq (fun i hi => ?_) u1 (by rw [← ew.1] at v1; exact v1)
      show A 32 (8 + i) = B 8 (24 * 0 + 8 + i)
      rw [hw i (by omega), show 24 * 0 + 8 + i = 8 + i by omega]
    rw [euv]
    exact v2
theorem find_c {L : Nat} {A B : AM} (h : TK L A B) (hH : HN A B) : ∃ v, f_X1_findCouple 23 (A 20 2) A = some (v, A) ∧ -1 ≤ v ∧ v < B 5 2 + (if v = -1 then 1 else 0) ∧ (nameP A → f_X11_named 0 2 B = some (v, B)) := by
  obtain ⟨_, ⟨r1, r2, r3⟩, _, hw⟩ := hH
  obtain ⟨n, hn⟩ : ∃ n : Nat, B 5 2 = (n : Int) := ⟨(B 5 2).toNat, by omega⟩
  obtain ⟨u, u1, u2⟩ := x_findName (A := A) (q := 23) (first := 18) (n := n) (w := A 20 2) (by omega)
  have hr := FN_r u1
  refine ⟨u, ?_, hr.1, ?_, fun g => ?_⟩
  · unfold f_X1_findCouple
    rw [r1, hn, show f_X1_findName 23 18 (n : Int) (A 20 2) A = some (u, A) from u2, bind_s]
  · by_cases e : u = -1
    · rw [if_pos e]; omega
    · rw [if_neg e]; omega
  · obtain ⟨v, v1, v2⟩ := m_named (B := B) (b := 0) (sort := 2) (n := n) (by decide) (by decide) hn (by show 18 + n ≤ 24; omega)
    have ew := (h.2.2.2.2.2.1 g.1).2.2 g.2.2
    have euv : u = v := by
      refine FN_uniq (fun i hi => ?_) u1 (by rw [← ew.1] at v1; exact v1)
      show A 32 (18 + i) = B 8 (24 * 0 + 18 + i)
      rw [hw i (by omega), show 24 * 0 + 18 + i = 18 + i by omega]
    rw [euv]
    exact v2
/-- what comes of the rest of a STEP -/
def RO (L r w : Nat) (A B : AM) (x : Option (Int × AM)) (m : Option AM) (G : AM → AM → Prop) : Prop :=
  (∃ A' B', x = some (1, A') ∧ m = some B' ∧ TK L A' B' ∧ FO A' B' ∧ A 20 11 ≤ A' 20 11 ∧ RF r w A B A' B' ∧ G A' B') ∨ (∃ A' B', x = some (0, A') ∧ m = some B' ∧ FB A' B' ∧ XF A A' ∧ YF B B')
theorem rest_num {L r w : Nat} {hi : Int} {A B : AM} (hr : r < 60) (hw : 1420 ≤ w ∧ w + 8 < 1775) (h : TK L A B) (hF : FO A B) :
    RO L r w A B (f_X9_readNumber (r : Int) hi A) ((f_X11_count 1 hi B).bind fun x3 => if 0 ≤ o_add (w : Int) 1 ∧ o_add (w : Int) 1 < 1775 then (zlet (am_upd x3.2 5 (Int.toNat (o_add (w : Int) 1)) x3.1) fun M5 => some M5) else none) (fun A' B' => A' 58 r = B' 5 (w + 1) ∧ 1 ≤ B' 5 (w + 1) ∧ B' 5 (w + 1) ≤ hi) := by
  have ew : o_add (w : Int) 1 = ((w + 1 : Nat) : Int) := o_succ (by omega)
  unfold f_X9_readNumber
  rw [ew]
  rcases nb_count 1 hi h hF with ⟨v, A3, B3, g1, g2, e3, e4, t3, f3, c3, m3, v3⟩ | ⟨A3, B3, e3, e4, p1, p2, p3, _⟩
  · rw [e3, e4, bind_s, bind_s]
    dsimp only
    rw [if_pos (show (0 : Int) ≤ (r : Int) ∧ (r : Int) < 60 by omega), if_pos (show (0 : Int) ≤ ((w + 1 : Nat) : Int) ∧ ((w + 1 : Nat) : Int) < 1775 by omega), tnc, tnc, zlet_eq, zlet_eq, am_upd_self, if_neg (by omega)]
    refine Or.inl ⟨_, _, rfl, rfl, TK_cong t3 (am_upd_cell (by decide)) (am_upd_cell (by decide)) (am_upd_cell (by decide)) (am_upd_cell (by decide)) (fun j _ => by rw [am_upd_cell (by decide)]), FO_cong f3 (am_upd_cell (by decide)) (by rw [am_upd_cell (by decide)]), ?_, RF_trans (RF_C c3 m3) (RF_trans (RF_a _ _ _ (by omega)) (RF_b _ _ _ (by omega))), ?_, ?_, ?_⟩
    · rw [am_upd_cell (by decide)]; exact v3.1
    · rw [am_upd_self, am_upd_self]
    · rw [am_upd_self]; exact g1
    · rw [am_upd_self]; exact g2
  · rw [e3, e4, bind_s, bind_s]
    dsimp only
    rw [if_pos (show (0 : Int) ≤ (r : Int) ∧ (r : Int) < 60 by omega), if_pos (show (0 : Int) ≤ ((w + 1 : Nat) : Int) ∧ ((w + 1 : Nat) : Int) < 1775 by omega), tnc, tnc, zlet_eq, zlet_eq, am_upd_self, if_pos rfl]
    refine Or.inr ⟨_, _, rfl, rfl, ?_, XF_trans p2 (XF_row _ _ (by omega)), YF_trans p3 (YF_c _ (by omega))⟩
    unfold FB at p1 ⊢
    rw [am_upd_cell (show 20 ≠ 58 by decide), am_upd_cell (show 0 ≠ 5 by decide)]
    exact p1
theorem rest_wire {L r w : Nat} {A B : AM} (hr : r < 60) (hw : 1420 ≤ w ∧ w + 8 < 1775) (h : TK L A B) (hF : FO A B) (hH : HN A B) :
    RO L r w A B ((f_X1_findWire 23 (A 20 2) A).bind fun x1 => f_X9_readThing (r : Int) x1.1 x1.2) (f_X11_readRest_77 (w : Int) B) (fun A' B' => A' 56 r = B' 5 (w + 1) ∧ 0 ≤ B' 5 (w + 1) ∧ B' 5 (w + 1) < B 5 1) := by
  have ew : o_add (w : Int) 1 = ((w + 1 : Nat) : Int) := o_succ (by omega)
  obtain ⟨v, v1, v2, v3, v4⟩ := find_w h hH
  unfold f_X11_readRest_77
  rw [v1, bind_s, ew]
  dsimp only
  rcases thing_core (sort := 1) hr h hF v2 v4 with ⟨k, A3, B3, rfl, e3, e4, t3, f3, c3, m3, a3⟩ | ⟨u, A3, B3, e3, e4, p1, p2, p3⟩
  · replace e4 : f_X11_readTold 0 1 B = some ((k : Int), B3) := e4
    rw [e3, e4, bind_s]
    dsimp only
    rw [if_pos (show (0 : Int) ≤ ((w + 1 : Nat) : Int) ∧ ((w + 1 : Nat) : Int) < 1775 by omega), tnc, zlet_eq]
    rw [if_neg (by omega)] at v3
    refine Or.inl ⟨_, _, rfl, rfl, TK_cong t3 rfl rfl rfl (am_upd_cell (by decide)) (fun j _ => by rw [am_upd_cell (by decide)]), FO_cong f3 rfl (by rw [am_upd_cell (by decide)]), a3.1, RF_trans (RF_a A B (k : Int) (x := 56) (by omega)) (RF_trans (RF_C c3 m3) (RF_b _ _ _ (by omega))), ?_, ?_, ?_⟩
    · rw [am_upd_self, c3.1 56 (by decide), am_upd_self]
    · rw [am_upd_self]; omega
    · rw [am_upd_self]; omega
  · replace e4 : f_X11_readTold 0 1 B = some (u, B3) := e4
    rw [e3, e4, bind_s]
    dsimp only
    rw [if_pos (show (0 : Int) ≤ ((w + 1 : Nat) : Int) ∧ ((w + 1 : Nat) : Int) < 1775 by omega), tnc, zlet_eq]
    refine Or.inr ⟨_, _, rfl, rfl, ?_, p2, YF_trans p3 (YF_c _ (by omega))⟩
    unfold FB at p1 ⊢
    rw [am_upd_cell (show 0 ≠ 5 by decide)]
    exact p1
