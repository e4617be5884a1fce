/-! YEARS: the call -/
theorem years_loop {L : Nat} : ∀ (N i s r : Nat) (A B : AM), 2 * ((L : Int) - A 20 11) + (if A 20 0 = 0 then 0 else 1) < (N : Int) → TK L A B → FO A B → HN A B → YQ 0 s r A B → PG i A →
    (∃ (A' B' : AM) (k e r2 : Nat), (∀ n, N < n → f_X11_years_28 n B = f_X11_years_50 B') ∧ (∀ n, f_X9_readYears_12 (n + k) (L : Int) (i : Int) A = f_X9_readYears_12 n (L : Int) ((i + k : Nat) : Int) A') ∧ A' 20 0 = 0 ∧ i + k ≤ L ∧ FO A' B' ∧ YQ 0 e r2 A' B' ∧ yseq (cN B') 53 A' (e - s) 3 s e r r2 ∧ (s ≤ e ∧ r ≤ r2) ∧ FRM s r 0 A B A' B') ∨
    (∃ (A' B' : AM) (k : Nat), (∀ n, N < n → f_X11_years_28 n B = f_X11_years_50 B') ∧ FB A' B' ∧ XF A A' ∧ YF B B' ∧ i + k ≤ L ∧ ∀ n, f_X9_readYears_12 (n + k + 1) (L : Int) (i : Int) A = some (0, A')) := by
  intro N
  induction N with
  | zero =>
    intro i s r A B hN t
    have := t.2.1.2.2
    exfalso
    by_cases hz : A 20 0 = 0
    · rw [if_pos hz] at hN; omega
    · rw [if_neg hz] at hN; omega
  | succ N ih =>
    intro i s r A B hN t f hH hq hp
    have hb := f.2.2
    have e0 := t.2.2.1.1
    have h11 := t.2.1.2.2
    by_cases hz : A 20 0 = 0
    · refine Or.inl ⟨A, B, 0, s, r, fun n hn => ?_, fun n => rfl, hz, PG_L t hp, f, hq, yseq_nil _ _ _ _ _ _ _, ⟨Nat.le_refl _, Nat.le_refl _⟩, ⟨XF_refl _, YF_refl _, fun _ _ _ _ _ => rfl, fun _ _ => rfl, fun _ _ => rfl⟩⟩
      obtain ⟨n2, rfl⟩ : ∃ n2, n = n2 + 1 := ⟨n - 1, by omega⟩
      rw [f_X11_years_28, if_neg (show ¬ ¬ B 0 12 = 0 from fun h => h hb), if_pos (by omega)]
    · rw [if_neg hz] at hN
      obtain ⟨B1, e1, hO⟩ := step_both 3 0 6 i s r A B (by decide) (by decide) t f hH hq hp (fun _ => hz) (fun h => absurd h (by decide))
      have l28 : ∀ n, f_X11_years_28 (n + 1) B = f_X11_years_28 n B1 := by
        intro n
        rw [f_X11_years_28, if_neg (show ¬ ¬ B 0 12 = 0 from fun h => h hb), if_neg (by omega)]
        unfold f_X11_readStep
        rw [show fc_X11_readStep 6 0 B = some B1 from e1, bind_s]
      rcases hO with ⟨A1, k, e2, m2, t1, f1, v1, p1, q1, s1, ⟨l1, l2⟩, F1, go1⟩ | ⟨A1, k, b1, x1, y1, kb, halt⟩
      · have hN1 : 2 * ((L : Int) - A1 20 11) + (if A1 20 0 = 0 then 0 else 1) < (N : Int) := by
          have v2 := v1.1
          rcases v1.2 with h | h
          · rw [if_pos h]; omega
          · by_cases h0 : A1 20 0 = 0
            · rw [if_pos h0]; omega
            · rw [if_neg h0]; omega
        rcases ih (i + k) e2 m2 A1 B1 hN1 t1 f1 (HN_XY hH F1.1 F1.2.1) q1 p1 with ⟨A', B', k2, e3, m3, g1, g2, g3, g4, g5, g6, g7, ⟨g8, g9⟩, g10⟩ | ⟨A', B', k2, g1, g2, g3, g4, g5, g6⟩
        · refine Or.inl ⟨A', B', k + k2, e3, m3, fun n hn => ?_, fun n => ?_, g3, by omega, g5, g6, ?_, ⟨by omega, by omega⟩, FRM_trans l1 l2 (Nat.le_refl _) F1 g10⟩
          · obtain ⟨n2, rfl⟩ : ∃ n2, n = n2 + 1 := ⟨n - 1, by omega⟩
            rw [l28]
            exact g1 n2 (by omega)
          · rw [show n + (k + k2) = (n + k2) + k by omega, go1 (n + k2), g2 n, show i + k + k2 = i + (k + k2) by omega]
          · have := yseq_app g7 _ _ _ (yseq_FRM g10 s1)
            rw [show e2 - s + (e3 - e2) = e3 - s by omega] at this
            exact this
        · refine Or.inr ⟨A', B', k + k2, fun n hn => ?_, g2, XF_trans F1.1 g3, YF_trans F1.2.1 g4, by omega, fun n => ?_⟩
          · obtain ⟨n2, rfl⟩ : ∃ n2, n = n2 + 1 := ⟨n - 1, by omega⟩
            rw [l28]
            exact g1 n2 (by omega)
          · rw [show n + (k + k2) + 1 = (n + k2 + 1) + k by omega, go1 (n + k2 + 1)]
            exact g6 n
      · refine Or.inr ⟨A1, B1, k, fun n hn => ?_, b1, x1, y1, kb, halt⟩
        obtain ⟨n2, rfl⟩ : ∃ n2, n = n2 + 1 + 1 := ⟨n - 2, by omega⟩
        rw [l28, f_X11_years_28, if_pos (by have := b1.1; omega)]
theorem m_years80 {B : AM} {e : Nat} (h : B 0 26 = (e : Int)) (he : e ≤ 30) : f_X11_years_80 zB 0 B = some ((e : Int), am_row B 5 (fun k => if 85 ≤ k ∧ k < 85 + 9 * e then B 5 (1420 + k) else B 5 k)) := by
  refine up_loop0 (fun n i s => f_X11_years_80 n (i : Int) s) (fun i => am_row B 5 (fun k => if 85 ≤ k ∧ k < 85 + i then B 5 (1420 + k) else B 5 k)) (9 * e) _ B ?_ ?_ ?_ (by omega)
  · exact am_row_id _ _ _ (by funext k; rw [if_neg (by omega)])
  · intro n i hi
    simp only [f_X11_years_80]
    have e1 : o_add 1505 (i : Int) = ((1505 + i : Nat) : Int) := by rw [o_add_eq (by omega) (by omega)]; omega
    have e2 : o_add 85 (i : Int) = ((85 + i : Nat) : Int) := by rw [o_add_eq (by omega) (by omega)]; omega
    rw [am_row_ne (by decide), h, o_mul_eq (by omega) (by omega), if_neg (by omega), e1, e2, if_pos (by omega), if_pos (by omega), zlet_eq, o_succ (by omega), tnc, tnc, am_row_self, if_neg (by omega), am_row_upd]
    congr 1
    congr 1
    funext k
    by_cases h1 : k = 85 + i
    · rw [if_pos h1, if_pos (by omega), h1, show 1420 + (85 + i) = 1505 + i by omega]
    · rw [if_neg h1]
      by_cases h2 : 85 ≤ k ∧ k < 85 + i
      · rw [if_pos h2, if_pos (by omega)]
      · rw [if_neg h2, if_neg (by omega)]
  · intro n
    simp only [f_X11_years_80]
    rw [am_row_ne (by decide), h, o_mul_eq (by omega) (by omega), if_pos (by omega)]
theorem x_copyYears2 {q b : Nat} {M : AM} (hqb : b + 7 < q ∨ q + 7 < b) (h0 : M b 0 = 0 ∨ M b 0 = 1) : ∃ N, f_X8_copyFrom q b M = some N ∧ (∀ j, j < 3 → N q j = M b j) ∧ (∀ i j, 1 ≤ i → i ≤ 6 → j < 60 → N (q + i) j = M (b + i) j) ∧ (∀ a, a < q ∨ q + 6 < a → N a = M a) := by
  unfold f_X8_copyFrom
  simp (disch := omega) only [zlet_eq, am_upd_cell, am_row_ne, tn0, tn60]
  rw [if_pos h0]
  refine ⟨_, rfl, fun j hj => ?_, fun i j h1 h6 hj => ?_, fun a ha => ?_⟩
  · simp (disch := omega) only [am_row_ne]
    simp only [am_upd_eq]
    rcases (by omega : j = 0 ∨ j = 1 ∨ j = 2) with rfl | rfl | rfl <;> simp
  · rcases (by omega : i = 1 ∨ i = 2 ∨ i = 3 ∨ i = 4 ∨ i = 5 ∨ i = 6) with rfl | rfl | rfl | rfl | rfl | rfl
    all_goals (simp (disch := omega) only [am_row_ne, am_row_self]; unfold cp_row; rw [if_pos (by omega)]; rw [show 0 + (j - 0) = j by omega])
  · simp (disch := omega) only [am_row_ne, am_upd_cell]
theorem years_both {M B : AM} {n : Nat} (hR : RR M) (hn : (n : Int) ≤ M 20 7) (hn3 : n ≤ 300) (hB : ∀ x, 1 ≤ x → x ≤ 14 → B x = M x) (hB0 : ∀ j, 2 ≤ j → B 0 j = M 0 j) :
    ∃ v N P, f_X10_years (n : Int) M = some (v, N) ∧ ((f_X11_starts (n : Int) 300 B).bind fun x3 => if ¬ x3.1 = 0 then (zlet (am_upd x3.2 0 26 0) fun M4 => f_X11_years_28 zB M4) else some ((-1), x3.2)) = some (v, P) ∧ (∀ x, x ≤ 14 → N x = M x) ∧ (B 0 0 = 0 → (∀ x, 15 ≤ x → B x = N x) → RR P) := by
  have hp := hR.2.2.2.2.1
  have h900 := hp.2.2.1
  have h207 := hp.1
  have hRb := hR.2.2.2.2.2.2.1
  obtain ⟨i1, i9, iRh⟩ := RR_house hR
  obtain ⟨A1, B1, s1, s2, s3, s4, s5, s6, s7, s8, s9⟩ := start_both (most := 300) hp hR.2.2.2.2.2.1 hn (by omega) (hB 4 (by decide) (by decide)) (hB0 8 (by decide))
  generalize hA3 : am_upd (am_upd (am_upd (am_upd A1 53 0 0) 53 1 0) 53 2 0) 53 10 0 = A3
  have a3c : ∀ x, x ≠ 53 → A3 x = A1 x := fun x h => by rw [← hA3, am_upd_cell h, am_upd_cell h, am_upd_cell h, am_upd_cell h]
  have a31 : A3 53 1 = 0 := by rw [← hA3]; simp [am_upd_eq]
  have a32 : A3 53 2 = 0 := by rw [← hA3]; simp [am_upd_eq]
  have a310 : A3 53 10 = 0 := by rw [← hA3]; simp [am_upd_eq]
  generalize hB3 : am_upd B1 0 26 0 = B3
  have b3c : ∀ x, x ≠ 0 → B3 x = B1 x := fun x h => by rw [← hB3, am_upd_cell h]
  have b3j : ∀ j, j ≠ 26 → B3 0 j = B1 0 j := fun j h => by rw [← hB3, am_upd_ne (fun h2 => h h2.2)]
  have b326 : B3 0 26 = 0 := by rw [← hB3, am_upd_self]
  have t3 : TK n A3 B3 := TK_cong s3 (a3c 20 (by decide)) (a3c 21 (by decide)) (a3c 22 (by decide)) (b3c 4 (by decide)) (fun j hj => b3j j (by omega))
  have f3 : FO A3 B3 := FO_cong s4 (a3c 20 (by decide)) (b3j 12 (by decide))
  have q3 : YQ 0 0 0 A3 B3 := ⟨⟨a31, b326, by decide⟩, ⟨a32, by decide⟩, a310, by decide⟩
  have p3 : PG 0 A3 := by
    unfold PG
    have := t3.2.1.2.1
    refine ⟨by omega, ?_⟩
    rw [a3c 20 (by decide)]
    exact s9
  have xM : ∀ x, x ≠ 20 → x ≠ 53 → A3 x = M x := fun x h1 h2 => by rw [a3c x h2]; exact s5 x h1
  have yB : ∀ x, x ≠ 0 → B3 x = B x := fun x h1 => by rw [b3c x h1]; exact s6 x h1
  have yB0 : ∀ j, j < 8 ∨ 19 < j → j ≠ 26 → B3 0 j = B 0 j := fun j h h26 => by rw [b3j j h26]; exact s7 j (by omega)
  have b308 : B3 0 8 = 0 := by rw [b3j 8 (by decide)]; exact s8
  have hH : HN A3 B3 := by
    obtain ⟨c1, c2, c3, c4, c5⟩ := hRb
    have g := (Rh_iff.mp iRh).1.1
    have e5 : B3 5 = M 5 := by rw [yB 5 (by decide), hB 5 (by decide) (by decide)]
    have e8 : B3 8 = M 8 := by rw [yB 8 (by decide), hB 8 (by decide) (by decide)]
    obtain ⟨d0, d1, d2, _⟩ := c4
    rw [blk0_at (by decide)] at d1 d2
    unfold HN
    rw [xM 23 (by decide) (by decide), xM 32 (by decide) (by decide), e5, e8]
    refine ⟨⟨g.2.2.2.1, i1.2.1⟩, ⟨g.2.2.2.2.1, i1.2.2.1⟩, fun i hi => ?_, fun i hi => ?_⟩
    · have := d1 i hi
      dsimp only at this
      rw [show 24 * 0 + (8 + i) = 8 + i by omega] at this
      exact this
    · have := d2 i hi
      dsimp only at this
      rw [show 24 * 0 + (18 + i) = 18 + i by omega] at this
      exact this
  have eM : ((f_X11_starts (n : Int) 300 B).bind fun x3 => if ¬ x3.1 = 0 then (zlet (am_upd x3.2 0 26 0) fun M4 => f_X11_years_28 zB M4) else some ((-1), x3.2)) = f_X11_years_28 zB B3 := by
    rw [s2, bind_s]
    dsimp only
    rw [if_pos (by decide), zlet_eq, hB3]
  have eX : f_X9_readYears (n : Int) M = f_X9_readYears_12 zB (n : Int) ((0 : Nat) : Int) A3 := by
    unfold f_X9_readYears
    rw [s1, bind_s, x_forget, bind_s, hA3]
    rfl
  rw [eM]
  unfold f_X10_years
  rw [if_neg (by omega), if_neg (by omega), if_pos (by omega), eX]
  have hN : 2 * ((n : Int) - A3 20 11) + (if A3 20 0 = 0 then 0 else 1) < ((2 * n + 2 : Nat) : Int) := by
    have := t3.2.1.2.1
    by_cases h0 : A3 20 0 = 0
    · rw [if_pos h0]; omega
    · rw [if_neg h0]; omega
  rcases years_loop (L := n) (2 * n + 2) 0 0 0 A3 B3 hN t3 f3 hH q3 p3 with ⟨A4, B4, k, e, r2, g1, go, gz, gk, g4, gq, gy, _, g5⟩ | ⟨A4, B4, k, g1, g3, g4, g5, gk, halt⟩
  · have hq10 := gq.2.2.1
    have he := gq.1.2.2
    have hx : f_X9_readYears_12 zB (n : Int) ((0 : Nat) : Int) A3 = some (1, am_upd A4 53 0 1) := by
      have := go (2000000 - k)
      rw [show 2000000 - k + k = zB by unfold zB; omega] at this
      rw [this]
      obtain ⟨m, hm⟩ : ∃ m, 2000000 - k = m + 1 := ⟨1999999 - k, by omega⟩
      rw [hm, ry_fin gz]
      unfold f_X9_readYears_63
      rw [if_pos (by omega), zlet_eq]
    rw [hx, g1 zB (by unfold zB; omega), bind_s]
    dsimp only
    rw [x_keepFault, bind_s, if_pos (by decide), am_upd_cell (show 20 ≠ 53 by decide), g4.1, g4.2.1]
    generalize hA6 : am_upd (am_upd (am_upd (am_upd A4 53 0 1) 20 7 0) 15 4 0) 15 5 (-1) = A6
    have a6c : ∀ x, x ≠ 20 → x ≠ 15 → x ≠ 53 → A6 x = A4 x := fun x h h2 h3 => by rw [← hA6, am_upd_cell h2, am_upd_cell h2, am_upd_cell h, am_upd_cell h3]
    have a653 : ∀ j, j ≠ 0 → A6 53 j = A4 53 j := fun j hj => by rw [← hA6, am_upd_cell (by decide), am_upd_cell (by decide), am_upd_cell (by decide), am_upd_ne (fun h => hj h.2)]
    have a6530 : A6 53 0 = 1 := by rw [← hA6, am_upd_cell (by decide), am_upd_cell (by decide), am_upd_cell (by decide), am_upd_self]
    obtain ⟨N1, n1, n2, n3, n4⟩ := x_copyYears2 (q := 45) (b := 53) (M := A6) (by omega) (Or.inr a6530)
    have n451 : N1 45 1 = (e : Int) := by rw [n2 1 (by decide), a653 1 (by decide)]; exact gq.1.1
    rw [n1, bind_s, n451, x_answer, bind_s]
    unfold f_X11_years_50
    rw [m_isWell_t g4.2.2, bind_s]
    dsimp only
    rw [if_pos (by decide), zlet_eq, zlet_eq]
    generalize hB5 : am_upd (am_upd B4 0 10 0) 0 11 (-1) = B5
    have b5c : ∀ x, x ≠ 0 → B5 x = B4 x := fun x h => by rw [← hB5, am_upd_cell h, am_upd_cell h]
    have b5j : ∀ j, j ≠ 10 → j ≠ 11 → B5 0 j = B4 0 j := fun j h h2 => by rw [← hB5, am_upd_ne (by omega), am_upd_ne (by omega)]
    have b526 : am_upd B5 5 (Int.toNat 83) 1 0 26 = (e : Int) := by rw [am_upd_cell (by decide), b5j 26 (by decide) (by decide)]; exact gq.1.2.1
    rw [b526]
    generalize hB6 : am_upd (am_upd B5 5 (Int.toNat 83) 1) 5 (Int.toNat 84) (e : Int) = B6
    have b6c : ∀ x, x ≠ 5 → B6 x = B5 x := fun x h => by rw [← hB6, am_upd_cell h, am_upd_cell h]
    have b6k : ∀ k, k ≠ 83 → k ≠ 84 → B6 5 k = B4 5 k := fun k h h2 => by rw [← hB6, am_upd_ne (show ¬ (5 = 5 ∧ k = Int.toNat 84) from fun hh => h2 hh.2), am_upd_ne (show ¬ (5 = 5 ∧ k = Int.toNat 83) from fun hh => h hh.2), b5c 5 (by decide)]
    have b683 : B6 5 83 = 1 := by rw [← hB6, am_upd_ne (show ¬ (5 = 5 ∧ 83 = Int.toNat 84) by decide)]; exact am_upd_self _ _ _ _
    have b684 : B6 5 84 = (e : Int) := by rw [← hB6]; exact am_upd_self _ _ _ _
    rw [m_years80 (e := e) (by rw [b6c 0 (by decide), b5j 26 (by decide) (by decide)]; exact gq.1.2.1) he]
    generalize hP : am_row B6 5 (fun k => if 85 ≤ k ∧ k < 85 + 9 * e then B6 5 (1420 + k) else B6 5 k) = P
    have pc : ∀ x, x ≠ 5 → P x = B5 x := fun x h => by rw [← hP, am_row_ne h, b6c x h]
    have p5 : ∀ k, P 5 k = if 85 ≤ k ∧ k < 85 + 9 * e then B6 5 (1420 + k) else B6 5 k := fun k => by rw [← hP, am_row_self]
    have p5lo : ∀ k, k < 83 → P 5 k = M 5 k := fun k hk => by rw [p5 k, if_neg (by omega), b6k k (by omega) (by omega), g5.2.1.2.2.1 k (by omega), yB 5 (by decide), hB 5 (by decide) (by decide)]
    have p5hi : ∀ k, 355 ≤ k → k < 1420 → P 5 k = M 5 k := fun k h hk => by rw [p5 k, if_neg (by omega), b6k k (by omega) (by omega), g5.2.1.2.2.1 k hk, yB 5 (by decide), hB 5 (by decide) (by decide)]
    have fx : ∀ x, x ≠ 15 → x ≠ 20 → (x < 34 ∨ 44 < x) → (x < 45 ∨ 51 < x) → (x < 53 ∨ 60 < x) → am_upd N1 15 0 0 x = M x := fun x h15 h20 h h45 h53 => by
      rw [am_upd_cell h15, n4 x (by omega), a6c x h20 h15 (by omega), g5.1.1 x h20 h h53, xM x h20 (by omega)]
    refine ⟨_, _, P, rfl, rfl, fun x hx => fx x (by omega) (by omega) (by omega) (by omega) (by omega), fun hb0 hlink => ?_⟩
    have pB : ∀ x, x ≠ 0 → x ≠ 5 → x ≠ 8 → P x = B x := fun x h0 h5 h8 => by rw [pc x h5, b5c x h0, g5.2.1.1 x h0 h5 h8, yB x h0]
    have p8 : ∀ i, i < 96 → P 8 i = M 8 i := fun i hi => by rw [pc 8 (by decide), b5c 8 (by decide), g5.2.1.2.2.2 i hi, yB 8 (by decide), hB 8 (by decide) (by decide)]
    have pN : ∀ x, 15 ≤ x → P x = am_upd N1 15 0 0 x := fun x h => by rw [pB x (by omega) (by omega) (by omega), hlink x h]
    have n15 : ∀ j, j ≠ 0 → j ≠ 4 → j ≠ 5 → am_upd N1 15 0 0 15 j = M 15 j := fun j h0 h4 h5 => by
      rw [am_upd_ne (fun h => h0 h.2), n4 15 (by omega), ← hA6, am_upd_ne (fun h => h5 h.2), am_upd_ne (fun h => h4 h.2), am_upd_cell (by decide), am_upd_cell (by decide), g5.1.1 15 (by decide) (by decide) (by decide), xM 15 (by decide) (by decide)]
    have p0 : ∀ j, j < 8 ∨ 19 < j → j ≠ 25 → j ≠ 26 → P 0 j = B 0 j := fun j h h25 h26 => by
      rw [pc 0 (by decide), b5j j (by omega) (by omega), g5.2.1.2.1 j (by omega) h25 h26, yB0 j h h26]
    refine RR_text hR (fun x hx => ?_) (fun k h1 h2 => p5hi k h1 h2) (fun i h1 h2 => p8 i h2) (fun j h0 h4 h5 => ?_) ⟨?_, ?_, ?_, ?_⟩ ⟨?_, ?_⟩ ⟨?_, ?_⟩ ?_ ?_
    · rcases (by omega : x ≤ 14 ∨ 15 ≤ x) with h | h
      · rw [pB x (by omega) (by omega) (by omega), hB x (by omega) h]
      · rw [pN x h]; exact fx x (by omega) (by omega) (by omega) (by omega) (by omega)
    · rw [pN 15 (by decide)]; exact n15 j h0 h4 h5
    · rw [p0 2 (by decide) (by decide) (by decide), hB0 2 (by decide)]
    · rw [p0 3 (by decide) (by decide) (by decide), hB0 3 (by decide)]
    · rw [p0 24 (by decide) (by decide) (by decide), hB0 24 (by decide)]
    · rw [p0 34 (by decide) (by decide) (by decide), hB0 34 (by decide)]
    · rw [pN 15 (by decide), am_upd_ne (by omega), n4 15 (by omega), ← hA6, am_upd_ne (by omega), am_upd_self, pc 0 (by decide), ← hB5, am_upd_ne (by omega), am_upd_self]
    · rw [pN 15 (by decide), am_upd_ne (by omega), n4 15 (by omega), ← hA6, am_upd_self, pc 0 (by decide), ← hB5, am_upd_self]
    · rw [pN 20 (by decide), am_upd_cell (by decide), n4 20 (by omega), ← hA6, am_upd_cell (by decide), am_upd_cell (by decide), am_upd_self]
    · rw [pc 0 (by decide), b5j 8 (by decide) (by decide), g5.2.1.2.1 8 (by decide) (by decide) (by decide)]; exact b308
    · obtain ⟨c1, c2, c3, c4, c5⟩ := hRb
      have hbk : ∀ k, k < 83 → blk (P 5) 0 k = blk (M 5) 0 k := fun k h => by rw [blk0_at (by omega), blk0_at (by omega)]; exact p5lo k h
      have hpc : ∀ x, 23 ≤ x → x ≤ 33 → P x = M x := fun x h1 h2 => by rw [pN x (by omega)]; exact fx x (by omega) (by omega) (by omega) (by omega) (by omega)
      refine ⟨Ic_congr hbk c1, by rw [hbk 5 (by decide)]; exact c2, Rh_congr hbk c1.2.1.2 c1.2.2.1.2 (Rh_cong (fun i hi => hpc _ (by omega) (by omega)) c3), ?_, Or.inr ⟨?_, ?_, ?_, e, r2, ?_, he, ?_, ?_, ?_⟩⟩
      · have := Rn_cong (N := P) (n2 := fun i => P 8 (24 * 0 + i)) (hpc 32 (by decide) (by decide)) (fun i hi => p8 _ (by omega)) c1.1.2 c1.2.1.2 c1.2.2.1.2 c4
        unfold Rn at this ⊢
        rw [hbk 0 (by decide), hbk 1 (by decide), hbk 2 (by decide)]
        exact this
      · rw [blk0_at (by decide), p5 83, if_neg (by omega)]; exact b683
      · rw [pN 45 (by decide), am_upd_cell (by decide), n2 0 (by decide)]; exact a6530
      · rw [blk0_at (by decide), p5 84, if_neg (by omega), b684, pN 45 (by decide), am_upd_cell (by decide)]; exact n451
      · rw [blk0_at (by decide), p5 84, if_neg (by omega)]; exact b684
      · rw [pN 45 (by decide), am_upd_cell (by decide), n2 2 (by decide), a653 2 (by decide)]; exact gq.2.1.1
      · have := gq.2.1.2
        omega
      · have hr60 : r2 ≤ 60 := by have := gq.2.1.2; omega
        have y1 : yseq (cN B4) 53 A4 31 3 0 e 0 r2 := yseq_le (by omega) gy
        have y2 : yseq (cN B4) 53 A6 31 3 0 e 0 r2 := yseq_loc rfl rfl _ _ _ _ _ _ (fun i j a b c d => by rw [a6c _ (by omega) (by omega) (by omega)]) (fun _ _ _ => rfl) y1
        have y3 : yseq (cN B4) 45 P 31 3 0 e 0 r2 := yseq_mv (q := 53) (q2 := 45) (fun i j a b c => by rw [pN _ (by omega), am_upd_cell (by omega)]; exact n3 i j a b c) _ _ _ _ _ _ hr60 y2
        refine yseq_loc ?_ ?_ _ _ _ _ _ _ (fun _ _ _ _ _ _ => rfl) (fun k a b => ?_) y3
        · rw [hbk 1 (by decide), blk0_at (by decide)]
          show M 5 1 = B4 5 1
          rw [g5.2.1.2.2.1 1 (by decide), yB 5 (by decide), hB 5 (by decide) (by decide)]
        · rw [hbk 2 (by decide), blk0_at (by decide)]
          show M 5 2 = B4 5 2
          rw [g5.2.1.2.2.1 2 (by decide), yB 5 (by decide), hB 5 (by decide) (by decide)]
        · rw [blk0_at (by omega), p5 k, if_pos (by omega), b6k _ (by omega) (by omega)]
          unfold cN
          rw [if_neg (by omega)]
    · rw [pN 15 (by decide), am_upd_self, p0 0 (by decide) (by decide) (by decide), hb0]
  · have hx : f_X9_readYears_12 zB (n : Int) ((0 : Nat) : Int) A3 = some (0, A4) := by
      have := halt (1999999 - k)
      rw [show 1999999 - k + k + 1 = zB by unfold zB; omega] at this
      exact this
    rw [hx, g1 zB (by unfold zB; omega), bind_s]
    dsimp only
    rw [x_keepFault, bind_s, if_neg (show ¬ ¬ (0 : Int) = 0 by decide), x_fail, bind_s]
    unfold f_X11_years_50
    rw [m_isWell_f g3.1, bind_s]
    dsimp only
    rw [if_neg (show ¬ ¬ (0 : Int) = 0 by decide)]
    generalize hN : am_upd (am_upd (am_upd (am_upd A4 20 7 0) 15 4 (A4 20 5)) 15 5 (A4 20 6)) 15 0 10 = N
    generalize hP : am_upd (am_upd (am_upd B4 0 10 (B4 0 12)) 0 11 (B4 0 13)) 0 0 10 = P
    have nc : ∀ x, x ≠ 15 → x ≠ 20 → (x < 34 ∨ 44 < x) → (x < 53 ∨ 60 < x) → N x = M x := fun x h15 h20 h h53 => by
      rw [← hN, am_upd_cell h15, am_upd_cell h15, am_upd_cell h15, am_upd_cell h20, g4.1 x h20 h h53, xM x h20 (by omega)]
    have n15 : ∀ j, j ≠ 0 → j ≠ 4 → j ≠ 5 → N 15 j = M 15 j := fun j h0 h4 h5 => by
      rw [← hN, am_upd_ne (fun h => h0 h.2), am_upd_ne (fun h => h5 h.2), am_upd_ne (fun h => h4 h.2), am_upd_cell (by decide), g4.1 15 (by decide) (by decide) (by decide), xM 15 (by decide) (by decide)]
    have pc : ∀ x, x ≠ 0 → P x = B4 x := fun x h => by rw [← hP, am_upd_cell h, am_upd_cell h, am_upd_cell h]
    refine ⟨_, N, P, rfl, rfl, fun x hx => nc x (by omega) (by omega) (by omega) (by omega), fun hb0 hlink => ?_⟩
    have pB : ∀ x, x ≠ 0 → x ≠ 5 → x ≠ 8 → P x = B x := fun x h0 h5 h8 => by rw [pc x h0, g5.1 x h0 h5 h8, yB x h0]
    have pN : ∀ x, 15 ≤ x → P x = N x := fun x h => by rw [pB x (by omega) (by omega) (by omega), hlink x h]
    have p5 : ∀ k, k < 1420 → P 5 k = M 5 k := fun k h => by rw [pc 5 (by decide), g5.2.2.1 k h, yB 5 (by decide), hB 5 (by decide) (by decide)]
    have p8 : ∀ i, i < 96 → P 8 i = M 8 i := fun i h => by rw [pc 8 (by decide), g5.2.2.2 i h, yB 8 (by decide), hB 8 (by decide) (by decide)]
    have p0 : ∀ j, j < 8 ∨ 19 < j → j ≠ 0 → j ≠ 25 → j ≠ 26 → P 0 j = B 0 j := fun j h hj0 h25 h26 => by
      rw [← hP, am_upd_ne (by omega), am_upd_ne (by omega), am_upd_ne (by omega), g5.2.1 j (by omega) h25 h26, yB0 j h h26]
    refine RR_text hR (fun x hx => ?_) (fun k h1 h2 => p5 k h2) (fun i h1 h2 => p8 i h2) (fun j h0 h4 h5 => ?_) ⟨?_, ?_, ?_, ?_⟩ ⟨?_, ?_⟩ ⟨?_, ?_⟩ ?_ ?_
    · rcases (by omega : x ≤ 14 ∨ 15 ≤ x) with h | h
      · rw [pB x (by omega) (by omega) (by omega), hB x (by omega) h]
      · rw [pN x h]; exact nc x (by omega) (by omega) (by omega) (by omega)
    · rw [pN 15 (by decide)]; exact n15 j h0 h4 h5
    · rw [p0 2 (by decide) (by decide) (by decide) (by decide), hB0 2 (by decide)]
    · rw [p0 3 (by decide) (by decide) (by decide) (by decide), hB0 3 (by decide)]
    · rw [p0 24 (by decide) (by decide) (by decide) (by decide), hB0 24 (by decide)]
    · rw [p0 34 (by decide) (by decide) (by decide) (by decide), hB0 34 (by decide)]
    · rw [pN 15 (by decide), ← hN, am_upd_ne (by omega), am_upd_ne (by omega), am_upd_self, ← hP, am_upd_ne (by omega), am_upd_ne (by omega), am_upd_self]; exact g3.2.1
    · rw [pN 15 (by decide), ← hN, am_upd_ne (by omega), am_upd_self, ← hP, am_upd_ne (by omega), am_upd_self]; exact g3.2.2
    · rw [pN 20 (by decide), ← hN, am_upd_cell (by decide), am_upd_cell (by decide), am_upd_cell (by decide), am_upd_self]
    · rw [← hP, am_upd_ne (by omega), am_upd_ne (by omega), am_upd_ne (by omega), g5.2.1 8 (by decide) (by decide) (by decide)]; exact b308
    · exact Rb_cong (fun k hk => p5 _ (by omega)) (fun i hi => p8 _ (by omega)) (fun i hi => by rw [pN _ (by omega)]; exact nc _ (by omega) (by omega) (by omega) (by omega)) (fun i hi => by rw [pN _ (by omega)]; exact nc _ (by omega) (by omega) (by omega) (by omega)) hRb
    · rw [pN 15 (by decide), ← hN, am_upd_self, ← hP, am_upd_self]
theorem a_years (a1 : Int) : Alike (f_X10_years a1) (f_X11_years a1) := by
  intro M hR
  obtain ⟨t1, t2, t3, _⟩ := hR.2.2.2.2.1
  by_cases g : (0 ≤ a1 ∧ a1 ≤ M 20 7) ∧ a1 ≤ 300
  · obtain ⟨n, rfl⟩ : ∃ n : Nat, a1 = (n : Int) := ⟨a1.toNat, by omega⟩
    obtain ⟨v, N, P, e1, _, h14, _⟩ := years_both (B := M) hR g.1.2 (by omega) (fun _ _ _ => rfl) (fun _ _ => rfl)
    obtain ⟨M2, hM2, e5, q2, s2, hc, hf⟩ := MS_ok N
    obtain ⟨v', N', P', e1', e2', h14', hlast⟩ := years_both (B := M2) (n := n) hR g.1.2 (by omega) (fun x h1 h2 => by rw [hc x (by omega), h14 x h2]) (fun j hj => by rw [hf j (by omega) (by omega), h14 0 (by decide)])
    have ee := Option.some.inj (e1.symm.trans e1')
    have ev : v = v' := congrArg Prod.fst ee
    have eN : N = N' := congrArg Prod.snd ee
    subst ev
    subst eN
    refine ⟨v, N, P', e1, ?_, hlast s2 (fun x hx => hc x (by omega))⟩
    unfold f_X11_years
    rw [zlet_eq, zlet_eq, hM2]
    exact e2'
  · refine still hR (-1) 5 ?_ ?_
    · unfold f_X10_years f_X10_years_22
      by_cases g3 : a1 < 0
      · rw [if_pos g3, x_fail, bind_s]
      · rw [if_neg g3]
        by_cases g4 : M 20 7 < a1
        · rw [if_pos g4, x_fail, bind_s]
        · rw [if_neg g4, if_neg (by omega), x_fail, bind_s]
    · unfold f_X11_years f_X11_starts f_X11_starts_17
      have st : am_upd (am_upd (am_upd M 15 0 5) 0 1 0) 0 0 0 0 8 = M 0 8 := by rw [am_upd_ne (by omega), am_upd_ne (by omega), am_upd_cell (by decide)]
      rw [zlet_eq, zlet_eq, st]
      by_cases g3 : a1 < 0
      · rw [if_pos g3, m_no, bind_s]
        dsimp only
        rw [if_pos (Or.inl rfl), bind_s]
        dsimp only
        rw [if_neg (show ¬ ¬ (0 : Int) = 0 by decide), am_upd_tw]
      · by_cases g4 : M 0 8 < a1
        · rw [if_neg g3, if_pos g4, m_no, bind_s]
          dsimp only
          rw [if_pos (Or.inl rfl), bind_s]
          dsimp only
          rw [if_neg (show ¬ ¬ (0 : Int) = 0 by decide), am_upd_tw]
        · rw [if_neg g3, if_neg g4, if_neg (by omega), m_no, bind_s]
          dsimp only
          rw [if_pos (Or.inl rfl), bind_s]
          dsimp only
          rw [if_neg (show ¬ ¬ (0 : Int) = 0 by decide), am_upd_tw]
