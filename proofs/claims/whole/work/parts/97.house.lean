/-! HOUSE: from the first PART to the last -/
theorem part_assoc (x : Option AM) (k : AM → Option (Int × AM)) : (x.bind fun x1 => (f_X11_isSign 59 x1).bind fun x2 => (f_X11_must x2.1 x2.2).bind fun x3 => k x3) = (x.bind semiM).bind k := by
  cases x with
  | none => rfl
  | some a =>
    show ((f_X11_isSign 59 a).bind fun x2 => (f_X11_must x2.1 x2.2).bind fun x3 => k x3) = ((f_X11_isSign 59 a).bind fun x2 => f_X11_must x2.1 x2.2).bind k
    cases f_X11_isSign 59 a <;> rfl
theorem house_loop {L : Nat} : ∀ (j i : Nat) (A B : AM), i + j = L → TK L A B → FO A B → HP A B → (A 20 0 = 0 ∨ (i : Int) < A 20 11) →
    (∃ A' B', (∀ f, j < f → f_X2_readHouse_21 f (L : Int) (i : Int) A = f_X2_readHouse_49 A') ∧ (∀ f, j < f → f_X11_house_33 f B = f_X11_house_64 B') ∧ HP A' B' ∧ FO A' B' ∧ XF A A' ∧ YF B B') ∨
    (∃ A' B', (∀ f, j < f → f_X2_readHouse_21 f (L : Int) (i : Int) A = some (0, A')) ∧ (∀ f, j < f → f_X11_house_33 f B = f_X11_house_64 B') ∧ FB A' B' ∧ XF A A' ∧ YF B B') := by
  intro j
  induction j with
  | zero =>
    intro i A B hij t f hH hp
    have e0 := t.2.2.1.1
    have hz : A 20 0 = 0 := by have := t.2.1.2.2; omega
    refine Or.inl ⟨A, B, fun n hn => ?_, fun n hn => ?_, hH, f, XF_refl A, YF_refl B⟩
    · obtain ⟨n2, rfl⟩ : ∃ n2, n = n2 + 1 := ⟨n - 1, by omega⟩
      rw [f_X2_readHouse_21, if_pos (by omega)]
    · obtain ⟨n2, rfl⟩ : ∃ n2, n = n2 + 1 := ⟨n - 1, by omega⟩
      rw [f_X11_house_33, if_neg (show ¬ ¬ B 0 12 = 0 from fun h => h f.2.2), if_pos (by omega)]
  | succ j ih =>
    intro i A B hij t f hH hp
    have e0 := t.2.2.1.1
    by_cases hz : A 20 0 = 0
    · refine Or.inl ⟨A, B, fun n hn => ?_, fun n hn => ?_, hH, f, XF_refl A, YF_refl B⟩
      · obtain ⟨n2, rfl⟩ : ∃ n2, n = n2 + 1 := ⟨n - 1, by omega⟩
        rw [f_X2_readHouse_21, if_neg (by omega), if_pos hz]
      · obtain ⟨n2, rfl⟩ : ∃ n2, n = n2 + 1 := ⟨n - 1, by omega⟩
        rw [f_X11_house_33, if_neg (show ¬ ¬ B 0 12 = 0 from fun h => h f.2.2), if_pos (by omega)]
    · have hi : (i : Int) < A 20 11 := hp.resolve_left hz
      rcases part_both t f hH with ⟨A2, B2, e1, e2, t2, f2, h2, x2, y2, v2⟩ | ⟨A2, B2, e1, e2, b2, x2, y2⟩
      · have hA2 : A2 20 0 = 0 ∨ ((i + 1 : Nat) : Int) < A2 20 11 := by
          rcases v2.2 with h | h
          · exact Or.inl h
          · exact Or.inr (by omega)
        have hx : ∀ n, j + 1 < n → f_X2_readHouse_21 n (L : Int) (i : Int) A = f_X2_readHouse_21 (n - 1) (L : Int) ((i + 1 : Nat) : Int) A2 := by
          intro n hn
          obtain ⟨n2, rfl⟩ : ∃ n2, n = n2 + 1 := ⟨n - 1, by omega⟩
          rw [f_X2_readHouse_21, if_neg (by omega), if_neg hz, e1, bind_s]
          dsimp only
          rw [if_pos (by decide), o_succ (by have := t.1.1; omega)]
          rfl
        have hm : ∀ n, j + 1 < n → f_X11_house_33 n B = f_X11_house_33 (n - 1) B2 := by
          intro n hn
          obtain ⟨n2, rfl⟩ : ∃ n2, n = n2 + 1 := ⟨n - 1, by omega⟩
          rw [f_X11_house_33, if_neg (show ¬ ¬ B 0 12 = 0 from fun h => h f.2.2), if_neg (by omega), part_assoc, e2, bind_s]
          rfl
        rcases ih (i + 1) A2 B2 (by omega) t2 f2 h2 hA2 with ⟨A', B', g1, g2, g3, g4, g5, g6⟩ | ⟨A', B', g1, g2, g3, g4, g5⟩
        · exact Or.inl ⟨A', B', fun n hn => by rw [hx n hn]; exact g1 _ (by omega), fun n hn => by rw [hm n hn]; exact g2 _ (by omega), g3, g4, XF_trans x2 g5, YF_trans y2 g6⟩
        · exact Or.inr ⟨A', B', fun n hn => by rw [hx n hn]; exact g1 _ (by omega), fun n hn => by rw [hm n hn]; exact g2 _ (by omega), g3, XF_trans x2 g4, YF_trans y2 g5⟩
      · refine Or.inr ⟨A2, B2, fun n hn => ?_, fun n hn => ?_, b2, x2, y2⟩
        · obtain ⟨n2, rfl⟩ : ∃ n2, n = n2 + 1 := ⟨n - 1, by omega⟩
          rw [f_X2_readHouse_21, if_neg (by have := t.2.1.2.2; omega), if_neg hz, e1, bind_s]
          dsimp only
          rw [if_neg (show ¬ ¬ (0 : Int) = 0 by decide)]
        · obtain ⟨n2, rfl⟩ : ∃ n2, n = n2 + 1 + 1 := ⟨n - 2, by omega⟩
          rw [f_X11_house_33, if_neg (show ¬ ¬ B 0 12 = 0 from fun h => h f.2.2), if_neg (by omega), part_assoc, e2, bind_s, f_X11_house_33, if_pos (by have := b2.1; omega)]
/-- POWER and ODDS that were not told -/
theorem x_read49 {A : AM} {c nm : Nat → Int} {tl : Int} (h : HQ A c nm tl) : f_X2_readHouse_49 A = some (1, am_upd (am_upd A 34 0 (c 3)) 34 1 (c 4)) := by
  obtain ⟨g1, g2, _⟩ := h.2.2.1
  unfold f_X2_readHouse_49 f_X2_readHouse_67
  have e1 : ∀ s : Int, am_upd A 34 0 s 34 1 = A 34 1 := fun s => am_upd_ne (by omega)
  by_cases p : A 34 0 = -1
  · rw [if_neg (fun h => h p), zlet_eq, zlet_eq, zlet_eq, e1]
    have c3 : c 3 = 8 := by omega
    by_cases q : A 34 1 = -1
    · have c4 : c 4 = 2 := by omega
      rw [if_neg (fun h => h q), c3, c4]
    · have c4 : c 4 = A 34 1 := by omega
      rw [if_pos q, c3, c4]
  · rw [if_pos p, zlet_eq, zlet_eq, zlet_eq, e1]
    have c3 : c 3 = A 34 0 := by omega
    by_cases q : A 34 1 = -1
    · have c4 : c 4 = 2 := by omega
      rw [if_neg (fun h => h q), c3, c4]
    · have c4 : c 4 = A 34 1 := by omega
      rw [if_pos q, c3, c4]
theorem HQ_fin {A N : AM} {c nm : Nat → Int} {tl : Int} (h : HQ A c nm tl) (hx : ∀ x, 35 ≤ x → x ≤ 44 → N x = A x) (h34 : ∀ j, 2 ≤ j → N 34 j = A 34 j) (h0 : N 34 0 = c 3) (h1 : N 34 1 = c 4) : Ic c ∧ c 5 ≤ 9999 ∧ Rh c 34 N ∧ c 83 = 0 := by
  obtain ⟨⟨⟨a1, a2, a3⟩, ⟨b1, b2, b3⟩, ⟨d1, d2, d3⟩⟩, ⟨f1, f2, f3, f4, f5, f6⟩, ⟨g1, g2, g3⟩, hw, hk, hz, ⟨s1, s2⟩, hN⟩ := h
  refine ⟨⟨⟨a2, a3⟩, ⟨b2, b3⟩, ⟨d2, d3⟩, by omega, by omega, by omega, by omega, fun w h => ?_, fun k h => ?_⟩, by omega, ⟨⟨h0, h1, ?_, ?_, ?_, ?_, ?_⟩, fun w h => ?_, fun k h => ?_, ?_, ?_, ?_⟩, f6⟩
  · obtain ⟨p1, p2, p3, p4, p5⟩ := hw w h
    exact ⟨p2, p3, p4, Or.inr p5⟩
  · obtain ⟨p1, p2, p3, p4, p5⟩ := hk k h
    obtain ⟨z1, z2⟩ := hz k (by omega)
    exact ⟨p2, p3, by omega, Or.inr p5, fun _ => p4.1, by omega, by omega⟩
  · rw [h34 2 (by decide)]; exact a1
  · rw [h34 3 (by decide)]; exact b1
  · rw [h34 4 (by decide)]; exact d1
  · rw [h34 5 (by decide), f1, f2]
  · rw [h34 6 (by decide), f3, f4]
  · obtain ⟨⟨p1, p2, p3⟩, _⟩ := hw w h
    show N 35 w = _ ∧ N 36 w = _ ∧ N 37 w = _
    rw [hx 35 (by decide) (by decide), hx 36 (by decide) (by decide), hx 37 (by decide) (by decide)]
    exact ⟨p1, p2, p3⟩
  · obtain ⟨⟨p1, p2, p3, p4, p5⟩, _⟩ := hk k h
    obtain ⟨z1, z2⟩ := hz k (by omega)
    show N 38 k = _ ∧ N 39 k = _ ∧ N 40 k = _ ∧ N 41 k = _ ∧ N 42 k = _
    rw [hx 38 (by decide) (by decide), hx 39 (by decide) (by decide), hx 40 (by decide) (by decide), hx 41 (by decide) (by decide), hx 42 (by decide) (by decide), z1, z2]
    exact ⟨p1, p2, p3, p4, p5⟩
  · rw [h34 7 (by decide)]
    exact ⟨setB tt (c 1).toNat, s1, setB_lt _ _, fun w hw2 => ⟨fun _ => (hw w (by omega)).2.2.2.2, fun _ => setB_tt _ w hw2⟩⟩
  · rw [h34 8 (by decide)]
    exact ⟨setB tt (c 2).toNat, s2, setB_lt _ _, fun w hw2 => ⟨fun _ => (hk w (by omega)).2.2.2.2, fun _ => setB_tt _ w hw2⟩⟩
  · exact Or.inl (by rw [h34 19 (by decide)]; exact f5)
theorem m_empties {b : Nat} {B : AM} (hb : b < 5) : f_X11_empties (b : Int) B = some (am_upd (am_upd (am_row B 5 (fun k => if 355 * b ≤ k ∧ k < 355 * b + 355 then 0 else B 5 k)) 5 (355 * b + 3) 8) 5 (355 * b + 4) 2) := by
  have e0 : o_mul 355 (b : Int) = ((355 * b : Nat) : Int) := by rw [o_mul_eq (by omega) (by omega)]; omega
  unfold f_X11_empties
  rw [e0]
  refine up_loop0 (fun n i s => f_X11_empties_8 n ((355 * b : Nat) : Int) (i : Int) s) (fun i => am_row B 5 (fun k => if 355 * b ≤ k ∧ k < 355 * b + i then 0 else B 5 k)) 355 _ B ?_ ?_ ?_ (by omega)
  · exact am_row_id _ _ _ (by funext k; rw [if_neg (by omega)])
  · intro n i hi
    simp only [f_X11_empties_8]
    have ea : o_add ((355 * b : Nat) : Int) (i : Int) = ((355 * b + i : Nat) : Int) := by rw [o_add_eq (by omega) (by omega)]; omega
    rw [if_neg (by omega), ea, if_pos (by omega), zlet_eq, o_succ (by omega), tnc, am_row_upd]
    congr 1
    congr 1
    funext k
    by_cases h1 : k = 355 * b + i
    · rw [if_pos h1, if_pos (by omega)]
    · rw [if_neg h1]
      by_cases h2 : 355 * b ≤ k ∧ k < 355 * b + i
      · rw [if_pos h2, if_pos (by omega)]
      · rw [if_neg h2, if_neg (by omega)]
  · intro n
    simp only [f_X11_empties_8]
    have e3 : o_add ((355 * b : Nat) : Int) 3 = ((355 * b + 3 : Nat) : Int) := by rw [o_add_eq (by omega) (by omega)]; omega
    have e4 : o_add ((355 * b : Nat) : Int) 4 = ((355 * b + 4 : Nat) : Int) := by rw [o_add_eq (by omega) (by omega)]; omega
    rw [if_pos (by omega), e3, e4, if_pos (by omega), zlet_eq, if_pos (by omega), zlet_eq, tnc, tnc]
/-- what RR wants of a text that was read -/
theorem RR_text {M N : AM} (hR : RR M) (hx : ∀ x, x = 1 ∨ x = 2 ∨ x = 3 ∨ x = 14 ∨ x = 19 ∨ x = 22 ∨ (74 ≤ x ∧ x ≤ 138) → N x = M x) (h5 : ∀ k, 355 ≤ k → k < 1420 → N 5 k = M 5 k) (h8 : ∀ i, 24 ≤ i → i < 96 → N 8 i = M 8 i)
    (h15 : ∀ j, j ≠ 0 → j ≠ 4 → j ≠ 5 → N 15 j = M 15 j) (h0 : N 0 2 = M 0 2 ∧ N 0 3 = M 0 3 ∧ N 0 24 = M 0 24 ∧ N 0 34 = M 0 34) (hf : N 15 4 = N 0 10 ∧ N 15 5 = N 0 11) (hp : N 20 7 = 0 ∧ N 0 8 = 0) (hb : Rb 0 23 45 N) (hs : N 15 0 = N 0 0) : RR N := by
  obtain ⟨r1, r2, r3, r4, r5, r6, r7, ⟨n, hn, e1, e2, hm⟩, ⟨l1, l2, l3⟩⟩ := hR
  obtain ⟨z2, z3, z24, z34⟩ := h0
  refine ⟨hs, ?_, hf, ?_, ?_, ?_, hb, ?_, ?_⟩
  · rw [h15 1 (by decide) (by decide) (by decide), h15 2 (by decide) (by decide) (by decide), z2, z3]; exact r2
  · exact Rt_cong (hx 1 (by omega)) (hx 2 (by omega)) (hx 3 (by omega)) (fun t ht => ⟨hx _ (by omega), hx _ (by omega)⟩) r4
  · refine ⟨by rw [hp.1, hp.2], by rw [hp.2]; decide, by rw [hp.2]; decide, fun k hk => by rw [hp.2] at hk; omega⟩
  · unfold Rk at r6 ⊢
    rw [hx 22 (by omega)]; exact r6
  · refine ⟨n, hn, by rw [h15 13 (by decide) (by decide) (by decide)]; exact e1, by rw [z24]; exact e2, fun i hi => ?_⟩
    exact Rb_cong (fun k hk => h5 _ (by omega) (by omega)) (fun k hk => h8 _ (by omega) (by omega)) (fun j hj => hx _ (by omega)) (fun j hj => hx _ (by omega)) (hm i hi)
  · refine ⟨by rw [h15 19 (by decide) (by decide) (by decide), z34]; exact l1, by rw [z34]; exact l2, fun i hi => ?_⟩
    rw [hx 19 (by omega), hx 14 (by omega)]; exact l3 i hi
