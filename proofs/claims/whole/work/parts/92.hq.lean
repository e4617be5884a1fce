/-! HOUSE: what is read so far, class's trial House (34..44) against the model's block 4 -/
def tt (_ : Nat) : Bool := true
def usedN (c : Nat → Int) (i : Nat) : Prop := (i < 8 ∧ (i : Int) < c 0) ∨ (8 ≤ i ∧ i < 18 ∧ (i : Int) < 8 + c 1) ∨ (18 ≤ i ∧ i < 24 ∧ (i : Int) < 18 + c 2)
def HQ (A : AM) (c nm : Nat → Int) (tl : Int) : Prop :=
  ((A 34 2 = c 0 ∧ 0 ≤ c 0 ∧ c 0 ≤ 8) ∧ (A 34 3 = c 1 ∧ 0 ≤ c 1 ∧ c 1 ≤ 10) ∧ (A 34 4 = c 2 ∧ 0 ≤ c 2 ∧ c 2 ≤ 6)) ∧
  (A 34 5 = 0 ∧ c 5 = 0 ∧ A 34 6 = 0 ∧ c 6 = 0 ∧ A 34 19 = 0 ∧ c 83 = 0) ∧
  ((A 34 0 = -1 ∧ c 3 = 8 ∨ A 34 0 = c 3 ∧ 1 ≤ c 3 ∧ c 3 ≤ 99) ∧ (A 34 1 = -1 ∧ c 4 = 2 ∨ A 34 1 = c 4 ∧ 0 ≤ c 4 ∧ c 4 ≤ 16) ∧ tl = (if A 34 0 = -1 then 0 else 8) + (if A 34 1 = -1 then 0 else 16)) ∧
  (∀ w : Nat, (w : Int) < c 1 → (A 35 w = c (7 + w) ∧ A 36 w = c (17 + w) ∧ A 37 w = c (27 + w)) ∧ (0 ≤ c (7 + w) ∧ c (7 + w) < c 0) ∧ (0 ≤ c (17 + w) ∧ c (17 + w) < c 0) ∧ (0 ≤ c (27 + w) ∧ c (27 + w) ≤ 9) ∧ c (37 + w) = 1) ∧
  (∀ k : Nat, (k : Int) < c 2 → (A 38 k = c (47 + k) ∧ A 39 k = c (53 + k) ∧ A 40 k = c (59 + k) ∧ A 41 k = 0 ∧ A 42 k = 0) ∧ (0 ≤ c (47 + k) ∧ c (47 + k) < c 0) ∧ (0 ≤ c (53 + k) ∧ c (53 + k) < c 0) ∧ (1 ≤ c (59 + k) ∧ c (59 + k) ≤ 9) ∧ c (65 + k) = 1) ∧
  (∀ k : Nat, k < 6 → c (71 + k) = 0 ∧ c (77 + k) = 0) ∧
  (A 34 7 = (setB tt (c 1).toNat : Nat) ∧ A 34 8 = (setB tt (c 2).toNat : Nat)) ∧
  (∀ i : Nat, i < 24 → (usedN c i → A 43 i = nm i) ∧ (¬ usedN c i → A 43 i = 0))
def HP (A B : AM) : Prop := HQ A (fun k => B 5 (1420 + k)) (fun i => B 8 (96 + i)) (B 0 25)
theorem HQ_A {A A' : AM} {c nm : Nat → Int} {tl : Int} (h : ∀ x, 34 ≤ x → x ≤ 44 → A' x = A x) (hH : HQ A c nm tl) : HQ A' c nm tl := by
  unfold HQ at hH ⊢
  rw [h 34 (by omega) (by omega), h 35 (by omega) (by omega), h 36 (by omega) (by omega), h 37 (by omega) (by omega), h 38 (by omega) (by omega), h 39 (by omega) (by omega), h 40 (by omega) (by omega), h 41 (by omega) (by omega), h 42 (by omega) (by omega), h 43 (by omega) (by omega)]
  exact hH
theorem HP_F {A A' B B' : AM} (h : HP A B) (h1 : CF A A') (h2 : MF B B') : HP A' B' := by
  unfold HP at h ⊢
  rw [h2.1 5 (by decide), h2.1 8 (by decide), h2.2 25 (by decide)]
  exact HQ_A (fun x a b => h1.1 x (by omega)) h
theorem HP_0 {A B : AM} (h : HP A B) : A 34 2 = B 5 1420 ∧ 0 ≤ B 5 1420 ∧ B 5 1420 ≤ 8 := h.1.1
theorem HP_1 {A B : AM} (h : HP A B) : A 34 3 = B 5 1421 ∧ 0 ≤ B 5 1421 ∧ B 5 1421 ≤ 10 := h.1.2.1
theorem HP_2 {A B : AM} (h : HP A B) : A 34 4 = B 5 1422 ∧ 0 ≤ B 5 1422 ∧ B 5 1422 ≤ 6 := h.1.2.2
theorem HP_n {A B : AM} (h : HP A B) {i : Nat} (hi : i < 24) : (usedN (fun k => B 5 (1420 + k)) i → A 43 i = B 8 (96 + i)) ∧ (¬ usedN (fun k => B 5 (1420 + k)) i → A 43 i = 0) := h.2.2.2.2.2.2.2 i hi
/-- a ROOM told ahead -/
theorem td_room {L : Nat} {A B : AM} (h : TK L A B) (hF : FO A B) (h34 : A 34 2 = B 5 1420 ∧ 0 ≤ B 5 1420 ∧ B 5 1420 ≤ 8) (hnm : ∀ i : Nat, (i : Int) < B 5 1420 → A 43 i = B 8 (96 + i)) :
    (∃ k : Nat, (k : Int) < B 5 1420 ∧ nameP A ∧ f_X11_told 4 0 B = some ((k : Int), B) ∧ ∀ a2, f_X2_takeRoom a2 A = if ¬ (k : Int) = a2 then (f_X5_advance A).bind fun x1 => some ((k : Int), x1) else (f_X5_refuse 5 A).bind fun x2 => some (-1, x2.2)) ∨
    (∃ v A' B', f_X11_told 4 0 B = some (v, B') ∧ (∀ a2, f_X2_takeRoom a2 A = some (-1, A')) ∧ FB A' B' ∧ XF A A' ∧ YF B B') := by
  have hF2 := hF.2.2
  obtain ⟨r1, r2, r3⟩ := h34
  obtain ⟨n, hn⟩ : ∃ n : Nat, B 5 1420 = (n : Int) := ⟨(B 5 1420).toNat, by omega⟩
  unfold f_X11_told
  rw [if_neg (show ¬ ¬ B 0 12 = 0 from fun h => h hF2)]
  by_cases g : nameP A
  · rw [m_isName_t h g, bind_s]
    dsimp only
    rw [if_pos (by decide)]
    unfold f_X11_told_18
    rw [if_pos (by omega)]
    obtain ⟨v, v1, v2⟩ := m_named (B := B) (b := 4) (sort := 0) (n := n) (by decide) (by decide) hn (by show 0 + n ≤ 24; omega)
    replace v2 : f_X11_named 4 0 B = some (v, B) := v2
    obtain ⟨u, u1, u2⟩ := x_findName (A := A) (q := 34) (first := 0) (n := n) (w := A 20 2) (by omega)
    have ew := (h.2.2.2.2.2.1 g.1).2.2 g.2.2
    have euv : u = v := by
      refine FN_uniq (fun i hi => ?_) u1 (by rw [← ew.1] at v1; exact v1)
      show A 43 (0 + i) = B 8 (96 + 0 + i)
      rw [Nat.zero_add, Nat.add_zero]
      exact hnm i (by omega)
    subst euv
    rw [v2, bind_s]
    dsimp only
    have hx : ∀ a2, f_X2_takeRoom a2 A = f_X2_takeRoom_19 a2 u A := by
      intro a2
      unfold f_X2_takeRoom
      rw [x_isName_t g, bind_s]
      dsimp only
      rw [if_neg (by decide)]
      unfold f_X1_findRoom
      rw [r1, hn, show (0 : Int) = ((0 : Nat) : Int) from rfl, u2, bind_s, bind_s]
    have hr := FN_r u1
    by_cases gu : 0 ≤ u
    · rw [if_pos gu]
      obtain ⟨k, rfl⟩ : ∃ k : Nat, u = (k : Int) := ⟨u.toNat, by omega⟩
      refine Or.inl ⟨k, by omega, g, ?_, fun a2 => ?_⟩
      · unfold f_X11_told_47
        rw [o_max_eq]
        rw [show max (0 : Int) (k : Int) = (k : Int) by omega]
      · rw [hx]
        unfold f_X2_takeRoom_19
        rw [if_pos (by omega)]
    · rw [if_neg gu]
      obtain ⟨A', B', e1, e2, c1, c2, c3, _⟩ := bad_at 3 (by decide) h hF (by have := g.1; omega)
      rw [e2, bind_s]
      refine Or.inr ⟨_, A', B', rfl, fun a2 => ?_, c1, c2, c3⟩
      rw [hx]
      unfold f_X2_takeRoom_19
      rw [if_neg (by omega), x_isName_t g, bind_s]
      dsimp only
      rw [if_neg (by decide)]
      unfold f_X2_takeRoom_38
      rw [e1, bind_s]
  · rw [m_isName_f h g, bind_s]
    dsimp only
    rw [if_neg (show ¬ ¬ (0 : Int) = 0 by decide)]
    obtain ⟨A', B', e1, e2, c1, c2, c3, _⟩ := bad_2 h hF
    rw [e2, bind_s]
    refine Or.inr ⟨0, A', B', ?_, fun a2 => ?_, c1, c2, c3⟩
    · unfold f_X11_told_18
      rw [if_neg (by have := c1.1; omega)]
    · unfold f_X2_takeRoom
      rw [x_isName_f g, bind_s]
      dsimp only
      rw [if_pos rfl]
      unfold f_X2_takeRoom_19
      rw [if_neg (by decide), x_isName_f g, bind_s]
      dsimp only
      rw [if_pos rfl]
      unfold f_X2_takeRoom_38
      rw [e1, bind_s]
/-- is the word taken -/
def tkB (A : AM) (w : Int) : Bool := (List.range 24).any (fun i => decide (A 43 i = w))
theorem tkB_iff {A : AM} {w : Int} : tkB A w = true ↔ ∃ i, i < 24 ∧ A 43 i = w := by simp [tkB]
theorem x_isTaken {A : AM} (w : Int) : f_X1_isTaken 34 w A = some (if tkB A w = true then 1 else 0, A) := by
  obtain ⟨u, u1, u2⟩ := x_findName (A := A) (q := 34) (first := 0) (n := 24) (w := w) (by omega)
  unfold f_X1_isTaken
  rw [show f_X1_findName 34 0 24 w A = some (u, A) from u2, bind_s]
  dsimp only
  rcases u1 with ⟨a1, a2⟩ | ⟨i, a1, a2, a3, a4⟩
  · rw [if_pos a1, if_neg (fun h => by
      obtain ⟨i, hi, he⟩ := tkB_iff.mp h
      exact a2 i hi (by show A 43 (0 + i) = w; rw [Nat.zero_add]; exact he))]
  · rw [if_neg (by omega), if_pos (tkB_iff.mpr ⟨i, a1, by have : A 43 (0 + i) = w := a3; rw [Nat.zero_add] at this; exact this⟩)]
/-- what a NAME that is told anew changes: slot s of the class, of the model -/
def NmF (s : Nat) (w : Int) (A B A' B' : AM) : Prop :=
  CF (am_upd A 43 s w) A' ∧ MF (am_upd B 8 (96 + s) w) B'
/-- the word of a NAME is new on both sides, or taken on both -/
theorem m_taken {L : Nat} {A B : AM} (h : TK L A B) (hH : HP A B) (g : nameP A) (k : AM → Option (Int × AM)) (k2 : AM → Option (Int × AM)) :
    ((f_X11_named 4 0 B).bind fun x1 => if 0 ≤ x1.1 then k x1.2 else ((f_X11_named 4 1 x1.2).bind fun x2 => if 0 ≤ x2.1 then k x2.2 else ((f_X11_named 4 2 x2.2).bind fun x3 => if x3.1 < 0 then k2 x3.2 else k x3.2))) = if tkB A (A 20 2) = true then k B else k2 B := by
  obtain ⟨a1, a2, a3⟩ := HP_0 hH
  obtain ⟨b1, b2, b3⟩ := HP_1 hH
  obtain ⟨c1, c2, c3⟩ := HP_2 hH
  obtain ⟨n0, hn0⟩ : ∃ n : Nat, B 5 1420 = (n : Int) := ⟨(B 5 1420).toNat, by omega⟩
  obtain ⟨n1, hn1⟩ : ∃ n : Nat, B 5 1421 = (n : Int) := ⟨(B 5 1421).toNat, by omega⟩
  obtain ⟨n2, hn2⟩ : ∃ n : Nat, B 5 1422 = (n : Int) := ⟨(B 5 1422).toNat, by omega⟩
  obtain ⟨u0, f0, e0⟩ := m_named (B := B) (b := 4) (sort := 0) (n := n0) (by decide) (by decide) hn0 (by show 0 + n0 ≤ 24; omega)
  obtain ⟨u1, f1, e1⟩ := m_named (B := B) (b := 4) (sort := 1) (n := n1) (by decide) (by decide) hn1 (by show 8 + n1 ≤ 24; omega)
  obtain ⟨u2, f2, e2⟩ := m_named (B := B) (b := 4) (sort := 2) (n := n2) (by decide) (by decide) hn2 (by show 18 + n2 ≤ 24; omega)
  replace e0 : f_X11_named 4 0 B = some (u0, B) := e0
  replace e1 : f_X11_named 4 1 B = some (u1, B) := e1
  replace e2 : f_X11_named 4 2 B = some (u2, B) := e2
  obtain ⟨ew, ew1⟩ := (h.2.2.2.2.2.1 g.1).2.2 g.2.2
  rw [e0, bind_s]
  dsimp only
  have d0 : ∀ i : Nat, (i : Int) < B 5 1420 → A 43 i = B 8 (96 + i) := fun i hi => (HP_n hH (by omega)).1 (Or.inl ⟨by omega, hi⟩)
  have d1 : ∀ i : Nat, (i : Int) < B 5 1421 → A 43 (8 + i) = B 8 (96 + (8 + i)) := fun i hi => (HP_n hH (by omega)).1 (Or.inr (Or.inl ⟨by omega, by omega, by show ((8 + i : Nat) : Int) < 8 + B 5 1421; omega⟩))
  have d2 : ∀ i : Nat, (i : Int) < B 5 1422 → A 43 (18 + i) = B 8 (96 + (18 + i)) := fun i hi => (HP_n hH (by omega)).1 (Or.inr (Or.inr ⟨by omega, by omega, by show ((18 + i : Nat) : Int) < 18 + B 5 1422; omega⟩))
  rcases f0 with ⟨p1, p2⟩ | ⟨i, p1, p2, p3, _⟩
  · rw [if_neg (by omega), e1, bind_s]
    dsimp only
    rcases f1 with ⟨q1, q2⟩ | ⟨i, q1, q2, q3, _⟩
    · rw [if_neg (by omega), e2, bind_s]
      dsimp only
      rcases f2 with ⟨r1, r2⟩ | ⟨i, r1, r2, r3, _⟩
      · rw [if_pos (by omega), if_neg]
        intro hh
        obtain ⟨i, hi, he⟩ := tkB_iff.mp hh
        rw [ew] at he
        by_cases hu : usedN (fun k => B 5 (1420 + k)) i
        · rw [(HP_n hH hi).1 hu] at he
          rcases hu with ⟨v1, v2⟩ | ⟨v1, v2, v3⟩ | ⟨v1, v2, v3⟩
          · replace v2 : (i : Int) < B 5 1420 := v2
            exact p2 i (by omega) he
          · replace v3 : (i : Int) < 8 + B 5 1421 := v3
            exact q2 (i - 8) (by omega) (by show B 8 (96 + 8 + (i - 8)) = _; rw [show 96 + 8 + (i - 8) = 96 + i by omega]; exact he)
          · replace v3 : (i : Int) < 18 + B 5 1422 := v3
            exact r2 (i - 18) (by omega) (by show B 8 (96 + 18 + (i - 18)) = _; rw [show 96 + 18 + (i - 18) = 96 + i by omega]; exact he)
        · rw [(HP_n hH hi).2 hu] at he
          omega
      · replace r3 : B 8 (96 + 18 + i) = B 0 19 := r3
        rw [if_neg (by omega), if_pos (tkB_iff.mpr ⟨18 + i, by omega, by rw [d2 i (by omega), ew, ← r3, show 96 + (18 + i) = 96 + 18 + i by omega]⟩)]
    · replace q3 : B 8 (96 + 8 + i) = B 0 19 := q3
      rw [if_pos (by omega), if_pos (tkB_iff.mpr ⟨8 + i, by omega, by rw [d1 i (by omega), ew, ← q3, show 96 + (8 + i) = 96 + 8 + i by omega]⟩)]
  · replace p3 : B 8 (96 + 0 + i) = B 0 19 := p3
    rw [if_pos (by omega), if_pos (tkB_iff.mpr ⟨i, by omega, by rw [d0 i (by omega), ew, ← p3]⟩)]
