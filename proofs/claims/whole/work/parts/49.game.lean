/-! GAME: best play, and the pruned search -/
def mvW (b : Bool) (wh w : Nat) : Nat := if b then dif wh (2 ^ w) else wh ||| 2 ^ w
def mvM (b : Bool) (md w : Nat) : Nat := if b then md else md ||| 2 ^ w
def alw (c : Nat → Int) (b : Bool) (wh md w : Nat) : Bool := if b then wh.testBit w else !wh.testBit w || !(md.testBit w || decide (c (27 + w) = 0))
def stepP (al : Nat → Bool) (val : Nat → Int) (b : Bool) (s : Int × Int) (w : Nat) : Int × Int := if al w = false then s else if 0 ≤ s.2 ∧ (if b then s.1 ≤ val w else val w ≤ s.1) then s else (val w, (w : Int))
def playP (c : Nat → Int) : Nat → Bool → Nat → Nat → Int × Int
  | 0, _, wh, md => (((cntB (rungB (cW c wh md)) (c 2).toNat : Nat) : Int), -1)
  | r + 1, b, wh, md => rg ((c 1).toNat + 1) (stepP (fun w => decide (w = (c 1).toNat) || alw c b wh md w) (fun w => if w = (c 1).toNat then (playP c r (!b) wh md).1 else (playP c r (!b) (mvW b wh w) (mvM b md w)).1) b) (0, -1)
def valP (c : Nat → Int) (r : Nat) (b : Bool) (wh md w : Nat) : Int := if w = (c 1).toNat then (playP c r (!b) wh md).1 else (playP c r (!b) (mvW b wh w) (mvM b md w)).1
def alP (c : Nat → Int) (b : Bool) (wh md w : Nat) : Bool := decide (w = (c 1).toNat) || alw c b wh md w
theorem playP_succ (c : Nat → Int) (r : Nat) (b : Bool) (wh md : Nat) : playP c (r + 1) b wh md = rg ((c 1).toNat + 1) (stepP (alP c b wh md) (valP c r b wh md) b) (0, -1) := rfl
theorem stepP_inv (al : Nat → Bool) (val : Nat → Int) (b : Bool) : ∀ i, ((∀ w, w < i → al w = false) ∧ rg i (stepP al val b) (0, -1) = (0, -1)) ∨
    (∃ u, u < i ∧ al u = true ∧ rg i (stepP al val b) (0, -1) = (val u, (u : Int)) ∧ ∀ w, w < i → al w = true → (if b then val u ≤ val w else val w ≤ val u)) := by
  intro i
  induction i with
  | zero => left; exact ⟨fun w h => by omega, rfl⟩
  | succ i ih =>
    rw [rg_succ]
    cases ha : al i
    · have e : ∀ s, stepP al val b s i = s := fun s => by unfold stepP; rw [if_pos ha]
      rw [e]
      rcases ih with ⟨h1, h2⟩ | ⟨u, h1, h2, h3, h4⟩
      · left
        refine ⟨fun w hw => ?_, h2⟩
        by_cases e : w = i
        · subst e; exact ha
        · exact h1 w (by omega)
      · right
        refine ⟨u, by omega, h2, h3, fun w hw hal => ?_⟩
        by_cases e : w = i
        · subst e; rw [ha] at hal; cases hal
        · exact h4 w (by omega) hal
    · right
      rcases ih with ⟨h1, h2⟩ | ⟨u, h1, h2, h3, h4⟩
      · rw [h2]
        unfold stepP
        rw [ha, if_neg (by decide), if_neg (by rintro ⟨h, _⟩; exact absurd h (by decide))]
        refine ⟨i, by omega, ha, rfl, fun w hw hal => ?_⟩
        by_cases e : w = i
        · subst e; split <;> omega
        · rw [h1 w (by omega)] at hal; cases hal
      · rw [h3]
        unfold stepP
        rw [ha, if_neg (by decide)]
        by_cases g : 0 ≤ (u : Int) ∧ (if b then val u ≤ val i else val i ≤ val u)
        · rw [if_pos g]
          refine ⟨u, by omega, h2, rfl, fun w hw hal => ?_⟩
          by_cases e : w = i
          · subst e; exact g.2
          · exact h4 w (by omega) hal
        · rw [if_neg g]
          refine ⟨i, by omega, ha, rfl, fun w hw hal => ?_⟩
          by_cases e : w = i
          · subst e; split <;> omega
          · have := h4 w (by omega) hal
            have g2 : ¬ (if b then val u ≤ val i else val i ≤ val u) := fun h => g ⟨by omega, h⟩
            cases b
            · simp only [Bool.false_eq_true, if_false] at this g2 ⊢; omega
            · simp only [if_true] at this g2 ⊢; omega
theorem alP_top (c : Nat → Int) (b : Bool) (wh md : Nat) : alP c b wh md (c 1).toNat = true := by simp [alP]
/-- the value of a turn: the best of all -/
theorem playP_best (c : Nat → Int) (r : Nat) (b : Bool) (wh md : Nat) : (∃ u, u ≤ (c 1).toNat ∧ alP c b wh md u = true ∧ (playP c (r + 1) b wh md).1 = valP c r b wh md u) ∧ ∀ w, w ≤ (c 1).toNat → alP c b wh md w = true → (if b then (playP c (r + 1) b wh md).1 ≤ valP c r b wh md w else valP c r b wh md w ≤ (playP c (r + 1) b wh md).1) := by
  rw [playP_succ]
  rcases stepP_inv (alP c b wh md) (valP c r b wh md) b ((c 1).toNat + 1) with ⟨h1, _⟩ | ⟨u, h1, h2, h3, h4⟩
  · have := h1 (c 1).toNat (by omega)
    rw [alP_top] at this; cases this
  · rw [h3]
    exact ⟨⟨u, by omega, h2, rfl⟩, fun w hw hal => h4 w (by omega) hal⟩
theorem playP_nn {c : Nat → Int} : ∀ (r : Nat) (b : Bool) (wh md : Nat), 0 ≤ (playP c r b wh md).1 ∧ (playP c r b wh md).1 ≤ (((c 2).toNat : Nat) : Int)
  | 0, b, wh, md => by
    have := cntB_le (rungB (cW c wh md)) (c 2).toNat
    show 0 ≤ ((cntB (rungB (cW c wh md)) (c 2).toNat : Nat) : Int) ∧ ((cntB (rungB (cW c wh md)) (c 2).toNat : Nat) : Int) ≤ _
    omega
  | r + 1, b, wh, md => by
    obtain ⟨⟨u, _, _, h⟩, _⟩ := playP_best c r b wh md
    rw [h]
    unfold valP
    split
    · exact playP_nn r _ _ _
    · exact playP_nn r _ _ _
/-! the model -/
def rowP (c : Nat → Int) (wh md : Nat) (r : Nat → Int) : Prop := (∀ j, j < 27 ∨ 47 ≤ j → r j = c j) ∧ ∀ w : Nat, (w : Int) < c 1 → r (37 + w) = (if wh.testBit w then 1 else 0) ∧ r (27 + w) = (if md.testBit w then 0 else c (27 + w))
theorem Ic_rowP {c r : Nat → Int} {wh md : Nat} (hI : Ic c) (h : rowP c wh md r) : Ic r := by
  refine Ic_wires hI h.1 (fun w hw => ?_)
  have hIw := Ic_w hI hw
  rw [(h.2 w hw).1, (h.2 w hw).2]
  refine ⟨?_, ?_⟩
  · split <;> omega
  · split
    · exact Or.inr rfl
    · exact Or.inl rfl
theorem rung_rowP {c r : Nat → Int} {wh md : Nat} (hI : Ic c) (h : rowP c wh md r) {k : Nat} (hk : k < 6) : rungB r k = rungB (cW c wh md) k := by
  have h1 := hI.2.1
  refine rung_congr ?_ ?_ ?_ (fun w hw => ⟨?_, ?_, ?_, ?_⟩) (fun j h1 h2 => ?_) hk
  · rw [cW_lo c _ _ (by omega)]; exact h.1 _ (by omega)
  · rw [cW_lo c _ _ (by omega)]; exact h.1 _ (by omega)
  · rw [cW_lo c _ _ (by omega)]; exact h.1 _ (by omega)
  · rw [cW_lo c _ _ (j := 1) (by omega)] at hw
    rw [cW_lo c _ _ (by omega)]; exact h.1 _ (by omega)
  · rw [cW_lo c _ _ (j := 1) (by omega)] at hw
    rw [cW_lo c _ _ (by omega)]; exact h.1 _ (by omega)
  · rw [cW_lo c _ _ (j := 1) (by omega)] at hw
    rw [cW_md c _ _ (by omega)]; exact (h.2 w hw).2
  · rw [cW_lo c _ _ (j := 1) (by omega)] at hw
    rw [cW_wh c _ _ (by omega)]; exact (h.2 w hw).1
  · rw [cW_lo c _ _ (by omega)]; exact h.1 _ (by omega)
theorem pc_setB {p : Nat → Bool} {n : Nat} (hn : n ≤ 10) : pc (setB p n) = cntB p n := by
  have e : pc (setB p n) = cntB (setB p n).testBit n := cnt_small (setB_lt p n) 10 hn
  rw [e]
  refine cntB_congr _ (fun i hi => ?_)
  rw [setB_bit]
  simp [hi]
theorem rowP_mouse {c r : Nat → Int} {wh md i : Nat} (hI : Ic c) (h : rowP c wh md r) (hi : (i : Int) < c 1) : rowP c (dif wh (2 ^ i)) md (cset r (37 + i) 0) := by
  have h1 := hI.2.1
  refine ⟨fun j hj => by rw [cset_ne (by omega)]; exact h.1 j hj, fun w hw => ⟨?_, ?_⟩⟩
  · rw [dif_bit, Nat.testBit_two_pow]
    by_cases e : w = i
    · subst e
      rw [cset_eq]
      simp
    · have e2 : ¬ i = w := fun h => e h.symm
      rw [cset_ne (by omega), (h.2 w hw).1]
      simp [e2]
  · rw [cset_ne (by omega)]; exact (h.2 w hw).2
theorem rowP_man {c r : Nat → Int} {wh md i : Nat} (hI : Ic c) (h : rowP c wh md r) (hi : (i : Int) < c 1) : rowP c (wh ||| 2 ^ i) (md ||| 2 ^ i) (cset (cset r (37 + i) 1) (27 + i) 0) := by
  have h1 := hI.2.1
  refine ⟨fun j hj => by rw [cset_ne (by omega), cset_ne (by omega)]; exact h.1 j hj, fun w hw => ⟨?_, ?_⟩⟩
  · rw [Nat.testBit_or, Nat.testBit_two_pow, cset_ne (by omega)]
    by_cases e : w = i
    · subst e
      rw [cset_eq]
      simp
    · have e2 : ¬ i = w := fun h => e h.symm
      rw [cset_ne (by omega), (h.2 w hw).1]
      simp [e2]
  · rw [Nat.testBit_or, Nat.testBit_two_pow]
    by_cases e : w = i
    · subst e
      rw [cset_eq]
      simp
    · have e2 : ¬ i = w := fun h => e h.symm
      rw [cset_ne (by omega), cset_ne (by omega), (h.2 w hw).2]
      simp [e2]
theorem lt_pow1024 {w : Nat} (h : w < 10) : 2 ^ w < 1024 := Nat.lt_of_lt_of_le (Nat.pow_lt_pow_right (by omega) h) (by decide)
theorem mvW_lt {b : Bool} {wh w : Nat} (h : wh < 1024) (hw : w < 10) : mvW b wh w < 1024 := by
  unfold mvW
  cases b
  · exact Nat.or_lt_two_pow (n := 10) h (lt_pow1024 hw)
  · exact dif_lt (n := 10) h
theorem mvM_lt {b : Bool} {md w : Nat} (h : md < 1024) (hw : w < 10) : mvM b md w < 1024 := by
  unfold mvM
  cases b
  · exact Nat.or_lt_two_pow (n := 10) h (lt_pow1024 hw)
  · exact h
/-- frames of the model's game -/
def GE (M N : AM) : Prop := N 5 = M 5 ∧ Eo [0, 5, 9] M N ∧ ∀ j, j ≠ 32 → N 0 j = M 0 j
theorem GE_refl (M : AM) : GE M M := ⟨rfl, Eo_refl _ _, fun _ _ => rfl⟩
theorem GE_trans {M N P : AM} (h1 : GE M N) (h2 : GE N P) : GE M P := ⟨h2.1.trans h1.1, Eo_trans h1.2.1 h2.2.1, fun j hj => (h2.2.2 j hj).trans (h1.2.2 j hj)⟩
theorem m_plays {c : Nat → Int} (hI : Ic c) : ∀ (r n t : Nat), r < n → t + r ≤ 10 → ∀ (wh md : Nat) (M : AM), wh < 1024 → md < 1024 → rowP c wh md (M 5) →
    Wp (fc_X11_plays n (t : Int) ((t + r : Nat) : Int) M) (fun x => x.1 = (playP c r (decide (t % 2 = 0)) wh md).1 ∧ GE M x.2 ∧ (t = 0 → 0 < r → x.2 0 32 = (playP c r (decide (t % 2 = 0)) wh md).2)) := by
  have h1 := hI.2.1
  have h2 := hI.2.2.1
  intro r
  induction r with
  | zero =>
    intro n t hn ht wh md M hwh hmd hrow
    obtain ⟨m, rfl⟩ : ∃ m, n = m + 1 := ⟨n - 1, by omega⟩
    have hIM := Ic_rowP hI hrow
    have e2 : M 5 2 = c 2 := hrow.1 2 (by omega)
    have hr : rungN (M 5) < 1024 := lt1024 (n := (M 5 2).toNat) (by omega) (setB_lt _ _)
    simp only [fc_X11_plays]
    unfold fo_X11_plays
    rw [if_neg (fun h => h rfl), m_rung hIM, bind_s]
    dsimp only
    rw [m_sizeOf' hr, bind_s]
    refine wp_some ⟨?_, ⟨LF5 M, Eo_sub (LF_Eo M) (by simp), fun j _ => by show LF M 0 j = M 0 j; rw [LF00]⟩, fun _ h => by omega⟩
    show ((pc (rungN (M 5)) : Nat) : Int) = ((cntB (rungB (cW c wh md)) (c 2).toNat : Nat) : Int)
    unfold rungN
    rw [pc_setB (by omega), e2]
    exact congrArg (fun x : Nat => (x : Int)) (cntB_congr _ (fun k hk => rung_rowP hI hrow (by omega)))
  | succ r ih =>
    intro n t hn ht wh md M hwh hmd hrow
    obtain ⟨m, rfl⟩ : ∃ m, n = m + 1 := ⟨n - 1, by omega⟩
    have hIM := Ic_rowP hI hrow
    have e1 : M 5 1 = c 1 := hrow.1 1 (by omega)
    have hpar : (!decide (t % 2 = 0)) = decide ((t + 1) % 2 = 0) := by
      by_cases g : t % 2 = 0
      · have : ¬ (t + 1) % 2 = 0 := by omega
        simp [g, this]
      · have : (t + 1) % 2 = 0 := by omega
        simp [g, this]
    have hchild : ∀ (wh' md' : Nat) (N : AM), wh' < 1024 → md' < 1024 → rowP c wh' md' (N 5) → Wp (fc_X11_plays m (o_add (t : Int) 1) ((t + (r + 1) : Nat) : Int) N) (fun x => x.1 = (playP c r (!decide (t % 2 = 0)) wh' md').1 ∧ GE N x.2) := by
      intro wh' md' N g1 g2 g3
      rw [o_succ (by omega), hpar, show t + (r + 1) = t + 1 + r by omega]
      exact wp_mono (ih m (t + 1) (by omega) (by omega) wh' md' N g1 g2 g3) (fun x hx => ⟨hx.1, hx.2.1⟩)
    generalize hb : decide (t % 2 = 0) = b at hchild ⊢
    have hmain : Wp (f_X11_plays_34 (fc_X11_plays m) zB (t : Int) ((t + (r + 1) : Nat) : Int) (if b then 1 else 0) 0 (-1) 0 M) (fun x => x.1 = (playP c (r + 1) b wh md).1 ∧ GE M x.2 ∧ (t = 0 → 0 < r + 1 → x.2 0 32 = (playP c (r + 1) b wh md).2)) := by
      refine up_loopP0 (fun n i (s : (Int × Int) × AM) => f_X11_plays_34 (fc_X11_plays m) n (t : Int) ((t + (r + 1) : Nat) : Int) (if b then 1 else 0) s.1.1 s.1.2 (i : Int) s.2) (fun i s => s.1 = rg i (stepP (alP c b wh md) (valP c r b wh md) b) (0, -1) ∧ GE M s.2) _ ((c 1).toNat + 1) ((0, -1), M) ⟨rfl, GE_refl M⟩ ?_ ?_ (by omega)
      · rintro n i ⟨⟨bst, wth⟩, N⟩ hi ⟨h3, hG⟩
        replace h3 : (bst, wth) = rg i (stepP (alP c b wh md) (valP c r b wh md) b) (0, -1) := h3
        replace hG : GE M N := hG
        have hN5 : N 5 = M 5 := hG.1
        have hNr : rowP c wh md (N 5) := by rw [hN5]; exact hrow
        have hs : rg (i + 1) (stepP (alP c b wh md) (valP c r b wh md) b) (0, -1) = stepP (alP c b wh md) (valP c r b wh md) b (bst, wth) i := by rw [rg_succ, ← h3]
        left
        show ∃ s2 : (Int × Int) × AM, _ ∧ f_X11_plays_34 (fc_X11_plays m) (n + 1) (t : Int) ((t + (r + 1) : Nat) : Int) (if b then 1 else 0) bst wth (i : Int) N = _
        -- behind a turn
        have h216 : ∀ (v : Int) (P : AM), alP c b wh md i = true → v = valP c r b wh md i → GE N P → ∃ s2 : (Int × Int) × AM, (s2.1 = rg (i + 1) (stepP (alP c b wh md) (valP c r b wh md) b) (0, -1) ∧ GE M s2.2) ∧ f_X11_plays_216 (fc_X11_plays m) (f_X11_plays_34 (fc_X11_plays m) n) (t : Int) ((t + (r + 1) : Nat) : Int) (if b then 1 else 0) bst wth (i : Int) v P = f_X11_plays_34 (fc_X11_plays m) n (t : Int) ((t + (r + 1) : Nat) : Int) (if b then 1 else 0) s2.1.1 s2.1.2 ((i + 1 : Nat) : Int) s2.2 := by
          intro v P hal hv hP
          unfold f_X11_plays_216
          rw [o_succ (by omega)]
          have hst : stepP (alP c b wh md) (valP c r b wh md) b (bst, wth) i = if 0 ≤ wth ∧ (if b then bst ≤ v else v ≤ bst) then (bst, wth) else (v, (i : Int)) := by
            unfold stepP
            rw [hal, if_neg (by decide), ← hv]
          rw [hs, hst]
          by_cases g1 : wth < 0
          · rw [if_pos g1, if_neg (by omega)]
            exact ⟨((v, (i : Int)), P), ⟨rfl, GE_trans hG hP⟩, rfl⟩
          · rw [if_neg g1]
            cases b
            · simp only [Bool.false_eq_true, if_false, if_true]
              by_cases g2 : bst < v
              · rw [if_pos g2, if_neg (by omega)]
                exact ⟨((v, (i : Int)), P), ⟨rfl, GE_trans hG hP⟩, rfl⟩
              · rw [if_neg g2, if_pos (by omega)]
                exact ⟨((bst, wth), P), ⟨rfl, GE_trans hG hP⟩, rfl⟩
            · simp only [if_true, i10, if_false]
              by_cases g2 : v < bst
              · rw [if_pos g2, if_neg (by omega)]
                exact ⟨((v, (i : Int)), P), ⟨rfl, GE_trans hG hP⟩, rfl⟩
              · rw [if_neg g2, if_pos (by omega)]
                exact ⟨((bst, wth), P), ⟨rfl, GE_trans hG hP⟩, rfl⟩
        have e1N : N 5 1 = c 1 := by rw [hN5]; exact e1
        simp only [f_X11_plays_34, tn1]
        rw [if_neg (by omega)]
        by_cases gi : i = (c 1).toNat
        · -- nothing is done
          rw [if_neg (fun h => h (by omega))]
          unfold f_X11_plays_61 f_X11_plays_100 f_X11_plays_119 f_X11_plays_140 f_X11_plays_165 f_X11_plays_177
          simp only [i10, not_false_eq_true, if_true, if_false]
          obtain ⟨⟨v, P⟩, e, hv, hP⟩ := hchild wh md N hwh hmd hNr
          rw [e, bind_s]
          replace hv : v = _ := hv
          exact h216 v P (by subst gi; exact alP_top c b wh md) (by rw [hv]; unfold valP; rw [if_pos gi]) hP
        · rw [if_pos (by omega)]
          have hic : (i : Int) < c 1 := by omega
          have hIw := Ic_w hI hic
          have hr37 := (hNr.2 i hic).1
          have hr27 := (hNr.2 i hic).2
          have hi10 : i < 10 := by omega
          have hskip : alP c b wh md i = false → ∃ s2 : (Int × Int) × AM, (s2.1 = rg (i + 1) (stepP (alP c b wh md) (valP c r b wh md) b) (0, -1) ∧ GE M s2.2) ∧ f_X11_plays_34 (fc_X11_plays m) n (t : Int) ((t + (r + 1) : Nat) : Int) (if b then 1 else 0) bst wth (o_add (i : Int) 1) N = f_X11_plays_34 (fc_X11_plays m) n (t : Int) ((t + (r + 1) : Nat) : Int) (if b then 1 else 0) s2.1.1 s2.1.2 ((i + 1 : Nat) : Int) s2.2 := by
            intro hal
            exact ⟨((bst, wth), N), ⟨by rw [hs]; unfold stepP; rw [if_pos hal], hG⟩, by rw [o_succ (by omega)]⟩
          have hback : ∀ (P Q : AM), Q 5 = cset (N 5) (37 + i) 0 ∨ Q 5 = cset (cset (N 5) (37 + i) 1) (27 + i) 0 → Eo [5] N Q → GE Q P → GE N (am_upd (am_upd P 5 (37 + i) (N 5 (37 + i))) 5 (27 + i) (N 5 (27 + i))) := by
            intro P Q hQ hEQ hGP
            refine ⟨?_, ?_, fun j hj => ?_⟩
            · rw [am5_2, hGP.1]
              funext j
              unfold cset
              by_cases g1 : j = 27 + i
              · rw [if_pos g1, g1]
              · rw [if_neg g1]
                by_cases g2 : j = 37 + i
                · rw [if_pos g2, g2]
                · rw [if_neg g2]
                  rcases hQ with hQ | hQ
                  · rw [hQ, cset_ne g2]
                  · rw [hQ, cset_ne g1, cset_ne g2]
            · exact Eo_upd _ _ (by simp) (Eo_upd _ _ (by simp) (Eo_trans (Eo_sub hEQ (by simp)) hGP.2.1))
            · rw [am_upd_cell (by decide), am_upd_cell (by decide), hGP.2.2 j hj, hEQ 0 (by simp)]
          have hne : ¬ i = (c 1).toNat := gi
          have h37 : o_add 37 (i : Int) = ((37 + i : Nat) : Int) := by rw [o_add_eq (by omega) (by omega)]; omega
          have h27 : o_add 27 (i : Int) = ((27 + i : Nat) : Int) := by rw [o_add_eq (by omega) (by omega)]; omega
          have hd37 : (0 : Int) ≤ ((37 + i : Nat) : Int) ∧ ((37 + i : Nat) : Int) < 1775 := by omega
          have hd27 : (0 : Int) ≤ ((27 + i : Nat) : Int) ∧ ((27 + i : Nat) : Int) < 1775 := by omega
          have c100 : ∀ bb, f_X11_plays_100 (fc_X11_plays m) (f_X11_plays_34 (fc_X11_plays m) n) (t : Int) ((t + (r + 1) : Nat) : Int) bb bst wth (i : Int) 0 N = f_X11_plays_140 (fc_X11_plays m) (f_X11_plays_34 (fc_X11_plays m) n) (t : Int) ((t + (r + 1) : Nat) : Int) bb bst wth (i : Int) 0 (N 5 (37 + i)) (N 5 (27 + i)) N := by
            intro bb
            unfold f_X11_plays_100
            rw [if_pos rfl, h37, if_pos hd37, tnc]
            unfold f_X11_plays_119
            rw [if_pos rfl, h27, if_pos hd27, tnc]
          have c177 : ∀ bb P, f_X11_plays_177 (fc_X11_plays m) (f_X11_plays_34 (fc_X11_plays m) n) (t : Int) ((t + (r + 1) : Nat) : Int) bb bst wth (i : Int) 0 (N 5 (37 + i)) (N 5 (27 + i)) P = (fc_X11_plays m (o_add (t : Int) 1) ((t + (r + 1) : Nat) : Int) P).bind fun x1 => f_X11_plays_216 (fc_X11_plays m) (f_X11_plays_34 (fc_X11_plays m) n) (t : Int) ((t + (r + 1) : Nat) : Int) bb bst wth (i : Int) x1.1 (am_upd (am_upd x1.2 5 (37 + i) (N 5 (37 + i))) 5 (27 + i) (N 5 (27 + i))) := by
            intro bb P
            unfold f_X11_plays_177
            rw [h37, h27]
            simp only [if_pos hd37, if_pos hd27, tnc, zlet_eq, not_true_eq_false, if_false]
          unfold f_X11_plays_61
          rw [if_neg (fun h => h rfl)]
          cases b
          · -- the wireman
            simp only [Bool.false_eq_true, if_false, if_true]
            rw [m_canMend (by rw [hN5]; exact hIM) hi10, bind_s]
            by_cases g : N 5 (37 + i) = 0 ∨ 0 < N 5 (27 + i)
            · have hal : alP c false wh md i = true := by
                unfold alP alw
                simp only [Bool.false_eq_true, if_false]
                rw [hr37, hr27] at g
                cases hw1 : wh.testBit i
                · simp
                · cases hm1 : md.testBit i
                  · rw [hw1, hm1] at g
                    simp only [if_true, Bool.false_eq_true, if_false] at g
                    have : ¬ c (27 + i) = 0 := by omega
                    simp [this]
                  · rw [hw1, hm1] at g
                    simp at g
              simp only [if_pos g, i10, not_false_eq_true, if_true]
              rw [c100]
              unfold f_X11_plays_140
              rw [if_neg (fun h => h rfl), if_pos rfl]
              unfold f_X11_plays_165
              rw [if_neg (fun h => h rfl), m_repairs hi10, bind_s]
              dsimp only
              rw [c177]
              obtain ⟨⟨v, P⟩, e, hv, hP⟩ := hchild (wh ||| 2 ^ i) (md ||| 2 ^ i) (am_upd (am_upd N 5 (37 + i) 1) 5 (27 + i) 0) (Nat.or_lt_two_pow (n := 10) hwh (lt_pow1024 hi10)) (Nat.or_lt_two_pow (n := 10) hmd (lt_pow1024 hi10)) (by rw [am5_2]; exact rowP_man hI hNr hic)
              rw [e, bind_s]
              refine h216 v _ hal ?_ (hback P _ (Or.inr (am5_2 _ _ _ _ _)) (Eo_upd _ _ (by simp) (Eo_upd _ _ (by simp) (Eo_refl _ _))) hP)
              replace hv : v = _ := hv
              rw [hv]
              unfold valP mvW mvM
              rw [if_neg hne]
              rfl
            · have hal : alP c false wh md i = false := by
                unfold alP alw
                simp only [Bool.false_eq_true, if_false]
                rw [hr37, hr27] at g
                have hd : decide (i = (c 1).toNat) = false := by simp [hne]
                rw [hd]
                cases hw1 : wh.testBit i
                · rw [hw1] at g; simp at g
                · cases hm1 : md.testBit i
                  · rw [hw1, hm1] at g
                    simp only [if_true, Bool.false_eq_true, if_false] at g
                    have : c (27 + i) = 0 := by omega
                    simp [this]
                  · simp
              simp only [if_neg g, not_true_eq_false, if_false]
              exact hskip hal
          · -- the mouse
            simp only [if_true, i10, if_false]
            rw [h37, if_pos hd37, tnc]
            by_cases g : N 5 (37 + i) = 0
            · have hal : alP c true wh md i = false := by
                unfold alP alw
                simp only [if_true]
                rw [hr37] at g
                have hd : decide (i = (c 1).toNat) = false := by simp [hne]
                rw [hd]
                cases hw1 : wh.testBit i
                · rfl
                · rw [hw1] at g; simp at g
              rw [if_neg (fun h => h g)]
              exact hskip hal
            · have hal : alP c true wh md i = true := by
                unfold alP alw
                simp only [if_true]
                rw [hr37] at g
                cases hw1 : wh.testBit i
                · rw [hw1] at g; simp at g
                · simp
              rw [if_pos g, c100]
              unfold f_X11_plays_140
              rw [if_neg (fun h => h rfl), if_neg (by decide), h37, if_pos hd37, zlet_eq, tnc, c177]
              obtain ⟨⟨v, P⟩, e, hv, hP⟩ := hchild (dif wh (2 ^ i)) md (am_upd N 5 (37 + i) 0) (dif_lt (n := 10) hwh) hmd (by rw [am5]; exact rowP_mouse hI hNr hic)
              rw [e, bind_s]
              refine h216 v _ hal ?_ (hback P _ (Or.inl (am5 _ _ _)) (Eo_upd _ _ (by simp) (Eo_refl _ _)) hP)
              replace hv : v = _ := hv
              rw [hv]
              unfold valP mvW mvM
              rw [if_neg hne]
              rfl
      · rintro n ⟨⟨bst, wth⟩, N⟩ ⟨h3, hG⟩
        replace h3 : (bst, wth) = playP c (r + 1) b wh md := h3
        replace hG : GE M N := hG
        have e1N : N 5 1 = c 1 := by rw [hG.1]; exact e1
        show Wp (f_X11_plays_34 (fc_X11_plays m) (n + 1) (t : Int) ((t + (r + 1) : Nat) : Int) (if b then 1 else 0) bst wth (((c 1).toNat + 1 : Nat) : Int) N) _
        simp only [f_X11_plays_34, tn1]
        rw [if_pos (by omega)]
        by_cases g : t = 0
        · rw [if_neg (fun h => h (by omega)), zlet_eq]
          refine wp_some ⟨by show bst = _; rw [← h3], ?_, fun _ _ => ?_⟩
          · refine ⟨?_, Eo_upd _ _ (by simp) hG.2.1, fun j hj => ?_⟩
            · show am_upd N 0 32 wth 5 = M 5
              rw [am_upd_cell (by decide)]; exact hG.1
            · show am_upd N 0 32 wth 0 j = M 0 j
              rw [am_upd_ne (fun h => hj h.2)]; exact hG.2.2 j hj
          · show am_upd N 0 32 wth 0 32 = _
            rw [am_upd_self, ← h3]
        · rw [if_pos (by omega)]
          exact wp_some ⟨by show bst = _; rw [← h3], hG, fun h => absurd h g⟩
    simp only [fc_X11_plays]
    unfold fo_X11_plays
    rw [if_pos (by omega), o_rem_eq (by omega) (by omega) (by omega) (by omega)]
    by_cases g : t % 2 = 0
    · have : b = true := by rw [← hb]; simp [g]
      subst this
      rw [if_neg (by omega)]
      exact hmain
    · have : b = false := by rw [← hb]; simp [g]
      subst this
      rw [if_pos (by omega)]
      exact hmain
