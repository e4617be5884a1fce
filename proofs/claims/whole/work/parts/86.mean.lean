/-! MEAN -/
theorem loveN_b {c : Nat → Int} (hI : Ic c) : 0 ≤ loveN c ∧ loveN c ≤ 54 := by
  have h2 := hI.2.2.1
  have := rg_invn (f := fun (s : Int) k => s + c (59 + k)) (P := fun (k : Nat) (s : Int) => 0 ≤ s ∧ s ≤ 9 * (k : Int)) (c 2).toNat (fun b i hi hb => by
    have := (Ic_k hI (k := i) (by omega)).2.2.1
    omega) (c 2).toNat 0 (Nat.le_refl _) ⟨by omega, by omega⟩
  unfold loveN
  omega
/-- what stands while the MEAN is taken: M0 the class's memory at first, B0 the model's -/
def MR (c : Nat → Int) (M0 B0 A B : AM) : Prop :=
  (∀ x, x < 34 ∨ (44 < x ∧ x < 69) ∨ 73 < x → A x = M0 x) ∧ B 5 = c ∧ (∀ k, k < 83 → B 7 k = c k) ∧ (∀ x, x ≠ 0 → x ≠ 5 → x ≠ 7 → x ≠ 9 → x ≠ 10 → B x = B0 x) ∧ ∀ j, j < 35 ∨ 42 < j → B 0 j = B0 0 j
theorem m_mean116 {k : Int → Int → Int → Int → AM → Option (Int × AM)} {a1 a2 a3 a5 : Int} {B : AM} : f_X11_mean_116 k zB a1 a2 a3 a5 0 B = k a1 a2 a3 (o_add a5 1) (am_row B 5 (fun j => if j < 83 then B 7 j else B 5 j)) := by
  refine up_loop0 (fun n i s => f_X11_mean_116 k n a1 a2 a3 a5 (i : Int) s) (fun i => am_row B 5 (fun j => if j < i then B 7 j else B 5 j)) 83 _ B ?_ ?_ ?_ (by omega)
  · exact am_row_id _ _ _ (by funext j; rw [if_neg (by omega)])
  · intro n i hi
    simp only [f_X11_mean_116]
    rw [if_neg (by omega), if_pos (by omega), if_pos (by omega), zlet_eq, o_succ (by omega), tnc, am_row_ne (by decide), am_row_upd]
    congr 1
    congr 1
    funext j
    by_cases h1 : j = i
    · subst h1
      rw [if_pos rfl, if_pos (by omega)]
    · rw [if_neg h1]
      by_cases h2 : j < i
      · rw [if_pos h2, if_pos (by omega)]
      · rw [if_neg h2, if_neg (by omega)]
  · intro n
    simp only [f_X11_mean_116]
    rw [if_pos (by omega)]
theorem m_mean62 {a1 a2 : Int} {B : AM} : f_X11_mean_62 zB a1 a2 0 B = f_X11_mean_91 zB a1 a2 0 0 (am_row B 7 (fun j => if j < 83 then B 5 j else B 7 j)) := by
  refine up_loop0 (fun n i s => f_X11_mean_62 n a1 a2 (i : Int) s) (fun i => am_row B 7 (fun j => if j < i then B 5 j else B 7 j)) 83 _ B ?_ ?_ ?_ (by omega)
  · exact am_row_id _ _ _ (by funext j; rw [if_neg (by omega)])
  · intro n i hi
    simp only [f_X11_mean_62]
    rw [if_neg (by omega), if_pos (by omega), if_pos (by omega), zlet_eq, o_succ (by omega), tnc, am_row_ne (by decide), am_row_upd]
    congr 1
    congr 1
    funext j
    by_cases h1 : j = i
    · subst h1
      rw [if_pos rfl, if_pos (by omega)]
    · rw [if_neg h1]
      by_cases h2 : j < i
      · rw [if_pos h2, if_pos (by omega)]
      · rw [if_neg h2, if_neg (by omega)]
  · intro n
    simp only [f_X11_mean_62]
    rw [if_pos (by omega)]
theorem mean_loop {c : Nat → Int} {M0 B0 : AM} {sd many n r : Nat} (hI : Ic c) (h9 : c 5 ≤ 9999) (hRh : Rh c 23 M0) (h84 : c 84 = (n : Int)) (hn : n ≤ 30) (h45 : M0 45 2 = (r : Int)) (h60 : r ≤ 60) (hY : yseq c 45 M0 31 3 0 n 0 r) (hm : 1 ≤ many ∧ many ≤ 20) (hsd : sd + many ≤ 10000) :
    ∀ (j i s : Nat) (A B : AM), i + j = many → s ≤ 54 * i → MR c M0 B0 A B → ∃ S A' B', (∀ f, j < f → f_X10_mean_52 f (sd : Int) (many : Int) (s : Int) (i : Int) A = some (1, am_upd (frU A' 15 1 2 S many) 15 0 0)) ∧ (∀ f, j < f → f_X11_mean_91 f (sd : Int) (many : Int) (s : Int) (i : Int) B = some (1, frU B' 0 2 3 S many)) ∧ MR c M0 B0 A' B' := by
  intro j
  induction j with
  | zero =>
    intro i s A B hij hs hMR
    have hi : i = many := by omega
    subst hi
    refine ⟨s, A, B, fun f hf => ?_, fun f hf => ?_, hMR⟩
    · obtain ⟨f2, rfl⟩ : ∃ f2, f = f2 + 1 := ⟨f - 1, by omega⟩
      rw [f_X10_mean_52, if_pos (Int.le_refl _), x_tell (by omega) (by omega) (by omega), bind_s, x_agree, bind_s]
      dsimp only
      rw [if_pos (Or.inr rfl)]
    · obtain ⟨f2, rfl⟩ : ∃ f2, f = f2 + 1 := ⟨f - 1, by omega⟩
      rw [f_X11_mean_91, if_pos (Int.le_refl _), m_fraction (by omega) (by omega) (by omega), bind_s]
      dsimp only
      rw [if_pos (Or.inr rfl)]
  | succ j ih =>
    intro i s A B hij hs hMR
    obtain ⟨r1, r2, r3, r4, r5⟩ := hMR
    have hA23 : Rh c 23 A := Rh_cong (fun k hk => r1 _ (by omega)) hRh
    obtain ⟨A1, eA1, hA1, _, hE1⟩ := x_copyFrom (q := 34) (b := 23) (by omega) hI hA23
    have hY1 : yseq (B 5) 45 A1 31 3 0 n 0 r := by
      rw [r2]
      exact yseq_cong (fun k hk => by rw [hE1 _ (by omega), r1 _ (by omega)]) _ _ _ _ _ _ hY
    obtain ⟨A2, B2, eA2, eB2, hL⟩ := run_years (q := 34) (A := A1) (B := B) (seed := ((sd + i : Nat) : Int)) (Or.inr rfl) (by omega) (by rw [r2]; exact hI) (by rw [r2]; exact h9) (by rw [r2]; exact hA1) hY1 (by rw [r2]; exact h84) hn (by rw [hE1 _ (by omega), r1 _ (by omega)]; exact h45) h60
    obtain ⟨⟨l1, l2, l3⟩, lb, lc, ld, le, lf, lg, ⟨lm1, lm2⟩⟩ := hL
    have hb := loveN_b l1
    obtain ⟨v, hv⟩ : ∃ v : Nat, loveN (B2 5) = (v : Int) := ⟨(loveN (B2 5)).toNat, by omega⟩
    have hrow : (fun j => if j < 83 then B2 7 j else B2 5 j) = c := by
      funext k
      by_cases hk : k < 83
      · rw [if_pos hk, lm1 7 (by decide) (by decide) (by decide) (by decide)]; exact r3 k hk
      · rw [if_neg hk, l3 k (by omega) (by omega), r2]
    have hMR2 : MR c M0 B0 A2 (am_row B2 5 (fun j => if j < 83 then B2 7 j else B2 5 j)) := by
      refine ⟨fun x hx => ?_, ?_, fun k hk => ?_, fun x h0 h5 h7 h9 h10 => ?_, fun k hk => ?_⟩
      · rw [lg x (by omega) (by omega) (by omega) (by omega) (by omega) (by omega) (by omega) (by omega) (by omega) (by omega), hE1 x (by omega), r1 x hx]
      · rw [am_row_self]; exact hrow
      · rw [am_row_ne (by decide), lm1 7 (by decide) (by decide) (by decide) (by decide)]; exact r3 k hk
      · rw [am_row_ne h5, lm1 x h0 h5 h9 h10]; exact r4 x h0 h5 h7 h9 h10
      · rw [am_row_ne (by decide), lm2 k hk]; exact r5 k hk
    obtain ⟨S, A', B', e1, e2, e3⟩ := ih (i + 1) (s + v) A2 _ (by omega) (by omega) hMR2
    have hadd : o_add (sd : Int) (i : Int) = ((sd + i : Nat) : Int) := by rw [o_add_eq (by omega) (by omega)]; omega
    refine ⟨S, A', B', fun f hf => ?_, fun f hf => ?_, e3⟩
    · obtain ⟨f2, rfl⟩ : ∃ f2, f = f2 + 1 := ⟨f - 1, by omega⟩
      rw [f_X10_mean_52, if_neg (by omega), eA1, bind_s, hadd, eA2, bind_s, x_loveTogether l1 (Rh_iff.mp lb).1, bind_s]
      dsimp only
      rw [hv, o_succ (by omega), o_add_eq (by omega) (by omega), show (s : Int) + (v : Int) = ((s + v : Nat) : Int) by omega]
      exact e1 f2 (by omega)
    · obtain ⟨f2, rfl⟩ : ∃ f2, f = f2 + 1 := ⟨f - 1, by omega⟩
      rw [f_X11_mean_91, if_neg (by omega), hadd, eB2, bind_s, m_allLove l1, bind_s]
      dsimp only
      rw [m_mean116, hv, o_succ (by omega), l_add_eq (by omega) (by omega), show (s : Int) + (v : Int) = ((s + v : Nat) : Int) by omega]
      exact e2 f2 (by omega)
theorem x_mean24 (M : AM) : f_X10_mean_24 M = some (0, am_upd M 15 0 5) := rfl
theorem m_mean37 (M : AM) : f_X11_mean_37 M = some (0, am_upd M 0 0 5) := rfl
theorem a_mean (a1 a2 : Int) : Alike (f_X10_mean a1 a2) (f_X11_mean a1 a2) := by
  intro M hR
  have hys := RR_years hR
  have st : ∀ s : Int, am_upd (am_upd (am_upd M 15 0 s) 0 1 0) 0 0 0 5 = M 5 := fun s => by rw [am_upd_cell (by decide), am_upd_cell (by decide), am_upd_cell (by decide)]
  by_cases g2 : 1 ≤ a2 ∧ a2 ≤ 20
  · have hsub : o_sub 10000 a2 = 10000 - a2 := o_sub_eq (by omega) (by omega)
    by_cases g1 : 0 ≤ a1 ∧ a1 ≤ 10000 - a2
    · rcases hys with ⟨h83, h45⟩ | ⟨h83, h45, n, r, b1, b2, b3, b4, b5⟩
      · refine still hR 0 8 ?_ ?_
        · unfold f_X10_mean
          rw [if_neg (by omega), if_neg (by omega), if_neg (by omega), hsub, if_pos g1.2, if_neg (fun h => h h45), x_refuse, bind_s]
          dsimp only
          rw [if_pos (Or.inl rfl)]
        · unfold f_X11_mean
          rw [zlet_eq, zlet_eq, isin_t g2, bind_s, hsub]
          dsimp only
          rw [if_neg (by decide), isin_t g1, bind_s]
          simp only [i10, not_false_eq_true, if_true, st]
          rw [if_neg (fun h => h h83), m_no, bind_s, am_upd_tw]
          dsimp only
          rw [if_pos (Or.inl rfl)]
      · obtain ⟨hI, h9, hRh⟩ := RR_house hR
        obtain ⟨sd, rfl⟩ : ∃ k : Nat, a1 = (k : Int) := ⟨a1.toNat, by omega⟩
        obtain ⟨many, rfl⟩ : ∃ k : Nat, a2 = (k : Int) := ⟨a2.toNat, by omega⟩
        have loop := fun (B0 : AM) (h : B0 5 = M 5) => mean_loop (c := M 5) (M0 := M) (B0 := B0) (sd := sd) (many := many) hI h9 hRh b1 b2 b3 b4 b5 (by omega) (by omega) many 0 0 M (am_row B0 7 (fun j => if j < 83 then B0 5 j else B0 7 j)) (by omega) (by omega) ⟨fun _ _ => rfl, by rw [am_row_ne (by decide)]; exact h, fun k hk => by rw [am_row_self, if_pos hk, h], fun x _ _ h7 _ _ => am_row_ne h7, fun j _ => by rw [am_row_ne (by decide)]⟩
        have z0 : ((0 : Nat) : Int) = 0 := rfl
        rw [z0] at loop
        obtain ⟨S1, A1, B1, e1, _, q1⟩ := loop M rfl
        have e1 := e1 zB (by unfold zB; omega)
        generalize hN1 : am_upd (frU A1 15 1 2 S1 many) 15 0 0 = N1 at e1
        have hx : f_X10_mean (sd : Int) (many : Int) M = some (1, N1) := by
          unfold f_X10_mean
          rw [if_neg (by omega), if_neg (by omega), if_neg (by omega), hsub, if_pos g1.2, if_pos (by omega)]
          exact e1
        obtain ⟨M2, hM2, k5, qq2, s2, hc, hf⟩ := MS_ok N1
        have n5 : N1 5 = M 5 := by
          rw [← hN1, am_upd_cell (by decide)]
          unfold frU
          rw [am_upd_cell (by decide), am_upd_cell (by decide)]
          exact q1.1 5 (by omega)
        obtain ⟨S, A', B', e3, e4, q3⟩ := loop M2 (by rw [k5, n5])
        have e3 := e3 zB (by unfold zB; omega)
        have e4 := e4 zB (by unfold zB; omega)
        have hN : N1 = am_upd (frU A' 15 1 2 S many) 15 0 0 := congrArg Prod.snd (Option.some.inj (e1.symm.trans e3))
        obtain ⟨r1, r2, r3, r4, r5⟩ := q3
        have hm : f_X11_mean (sd : Int) (many : Int) N1 = some (1, frU B' 0 2 3 S many) := by
          unfold f_X11_mean
          rw [zlet_eq, zlet_eq, hM2, isin_t g2, bind_s, hsub]
          dsimp only
          rw [if_neg (by decide), isin_t g1, bind_s]
          simp only [i10, not_false_eq_true, if_true]
          rw [k5, n5, if_pos (show ¬ M 5 (Int.toNat 83) = 0 by rw [tn83, h83]; decide), m_mean62]
          exact e4
        refine ⟨1, N1, _, hx, hm, ?_⟩
        have f5 : frU B' 0 2 3 S many 5 = M 5 := by unfold frU; rw [am_upd_cell (by decide), am_upd_cell (by decide)]; exact r2
        have nA : ∀ x, x ≠ 15 → N1 x = A' x := fun x h => by rw [hN, am_upd_cell h]; unfold frU; rw [am_upd_cell h, am_upd_cell h]
        have nM : ∀ x, x ≠ 15 → (x < 34 ∨ (44 < x ∧ x < 69) ∨ 73 < x) → N1 x = M x := fun x h h2 => by rw [nA x h]; exact r1 x h2
        have a15 : A' 15 = M 15 := r1 15 (by omega)
        refine RR_mk2 (M := M) (N1 := N1) hR ⟨fun a ha => ?_, fun j j0 j1 j2 => ?_⟩ ⟨fun a ha => ?_, ?_, ?_, ?_, ?_, ?_⟩ (by rw [f5]; exact hI) (by rw [f5]; exact h9) ?_ (by rw [f5]; exact ⟨rfl, rfl, rfl⟩) (by rw [f5]; exact fun _ _ => rfl) ?_ ⟨?_, ?_⟩
        · unfold xcell at ha; exact nM a (by omega) (by omega)
        · rw [hN, am_upd_ne (by omega)]; unfold frU; rw [am_upd_ne (by omega), am_upd_ne (by omega), a15]
        · unfold mcell at ha
          unfold frU
          rw [am_upd_cell (by omega), am_upd_cell (by omega), r4 a (by omega) (by omega) (by omega) (by omega) (by omega)]
          exact hc a (by omega)
        · unfold frU; rw [am_upd_ne (by omega), am_upd_ne (by omega), r5 8 (by decide)]; exact hf 8 (by decide) (by decide)
        · unfold frU; rw [am_upd_ne (by omega), am_upd_ne (by omega), r5 10 (by decide)]; exact hf 10 (by decide) (by decide)
        · unfold frU; rw [am_upd_ne (by omega), am_upd_ne (by omega), r5 11 (by decide)]; exact hf 11 (by decide) (by decide)
        · unfold frU; rw [am_upd_ne (by omega), am_upd_ne (by omega), r5 24 (by decide)]; exact hf 24 (by decide) (by decide)
        · unfold frU; rw [am_upd_ne (by omega), am_upd_ne (by omega), r5 34 (by decide)]; exact hf 34 (by decide) (by decide)
        · rw [f5]; exact Rh_cong (fun i hi => nM _ (by omega) (by omega)) hRh
        · rw [hN, am_upd_self]
          unfold frU
          rw [am_upd_ne (by omega), am_upd_ne (by omega), r5 0 (by decide)]; exact s2
        · rw [hN, am_upd_ne (by omega)]
          unfold frU
          rw [am_upd_ne (by omega), am_upd_self, am_upd_ne (by omega), am_upd_self]
        · rw [hN, am_upd_ne (by omega)]
          unfold frU
          rw [am_upd_self, am_upd_self]
    · refine still hR 0 5 ?_ ?_
      · unfold f_X10_mean
        simp only [x_mean24, hsub]
        by_cases g3 : a1 < 0
        · rw [if_pos g3]
        · rw [if_neg g3, if_neg (by omega), if_neg (by omega), if_neg (by omega)]
      · unfold f_X11_mean
        rw [zlet_eq, zlet_eq, isin_t g2, bind_s, hsub]
        dsimp only
        rw [if_neg (by decide), isin_f g1, bind_s]
        simp only [i00, not_true_eq_false, if_false, m_mean37, am_upd_tw]
  · refine still hR 0 5 ?_ ?_
    · unfold f_X10_mean
      simp only [x_mean24]
      by_cases g3 : a1 < 0
      · rw [if_pos g3]
      · rw [if_neg g3]
        by_cases g4 : a2 < 1
        · rw [if_pos g4]
        · rw [if_neg g4, if_pos (by omega)]
    · unfold f_X11_mean
      rw [zlet_eq, zlet_eq, isin_f g2, bind_s]
      dsimp only
      rw [if_pos rfl, m_mean37, am_upd_tw]
