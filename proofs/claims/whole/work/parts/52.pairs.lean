/-! PAIRS -/
abbrev PS : Type := (Nat → Int) × (Nat → Int) × (Nat → Nat)
def FK (c : Nat → Int) (k e : Nat) : Int := FD c (c (47 + k)) (c (53 + e))
def stepN (c : Nat → Int) (A k : Nat) (b : Int) (e : Nat) : Int := if A.testBit e = true ∨ ¬ FK c k e ≤ c 3 then b else if b < 0 then (e : Int) else if FK c k e < FK c k b.toNat then (e : Int) else b
def nextF (c : Nat → Int) (A k : Nat) : Int := rg (c 2).toNat (stepN c A k) (-1)
theorem next_inv (c : Nat → Int) (A k : Nat) : ∀ i, rg i (stepN c A k) (-1) = -1 ∨ (0 ≤ rg i (stepN c A k) (-1) ∧ rg i (stepN c A k) (-1) < (i : Int) ∧ A.testBit (rg i (stepN c A k) (-1)).toNat = false ∧ FK c k (rg i (stepN c A k) (-1)).toNat ≤ c 3) := by
  intro i
  induction i with
  | zero => left; rfl
  | succ i ih =>
    rw [rg_succ]
    generalize rg i (stepN c A k) (-1) = b at ih
    unfold stepN
    by_cases g1 : A.testBit i = true ∨ ¬ FK c k i ≤ c 3
    · rw [if_pos g1]
      rcases ih with h | h
      · exact Or.inl h
      · exact Or.inr ⟨h.1, by omega, h.2.2⟩
    · rw [if_neg g1]
      have g2 : A.testBit i = false := by
        cases h : A.testBit i
        · rfl
        · exact absurd (Or.inl h) g1
      have g3 : FK c k i ≤ c 3 := by
        apply Classical.byContradiction
        intro h
        exact g1 (Or.inr h)
      have hnew : (i : Int) = -1 ∨ (0 ≤ (i : Int) ∧ (i : Int) < ((i + 1 : Nat) : Int) ∧ A.testBit (i : Int).toNat = false ∧ FK c k (i : Int).toNat ≤ c 3) := by
        right
        rw [tnc]
        exact ⟨by omega, by omega, g2, g3⟩
      split
      · exact hnew
      · split
        · exact hnew
        · rcases ih with h | h
          · omega
          · exact Or.inr ⟨h.1, by omega, h.2.2⟩
theorem nextF_r {c : Nat → Int} (hI : Ic c) (A k : Nat) : nextF c A k = -1 ∨ ∃ e : Nat, nextF c A k = (e : Int) ∧ (e : Int) < c 2 ∧ A.testBit e = false := by
  have h2 := hI.2.2.1
  rcases next_inv c A k (c 2).toNat with h | ⟨h1, h3, h4, _⟩
  · exact Or.inl h
  · refine Or.inr ⟨(nextF c A k).toNat, ?_, ?_, h4⟩
    · unfold nextF; omega
    · unfold nextF; omega
def stepK (c : Nat → Int) (S : PS) (b : Int) (k : Nat) : Int := if 0 ≤ b then b else if S.1 k < 0 ∧ 0 ≤ nextF c (S.2.2 k) k then (k : Int) else b
/-- the first who asks -/
def askF (c : Nat → Int) (S : PS) : Int := rg (c 2).toNat (stepK c S) (-1)
theorem ask_stay (c : Nat → Int) (S : PS) {i : Nat} (h : 0 ≤ rg i (stepK c S) (-1)) : ∀ m, i ≤ m → rg m (stepK c S) (-1) = rg i (stepK c S) (-1) := by
  intro m
  induction m with
  | zero => intro hm; have : i = 0 := by omega
            subst this; rfl
  | succ m ih =>
    intro hm
    by_cases e : i = m + 1
    · subst e; rfl
    · have := ih (by omega)
      rw [rg_succ]
      unfold stepK at this ⊢
      rw [this]
      unfold stepK at h
      rw [if_pos h]
theorem ask_inv (c : Nat → Int) (S : PS) : ∀ i, (rg i (stepK c S) (-1) = -1) ∨ ∃ k : Nat, k < i ∧ rg i (stepK c S) (-1) = (k : Int) ∧ S.1 k < 0 ∧ 0 ≤ nextF c (S.2.2 k) k := by
  intro i
  induction i with
  | zero => exact Or.inl rfl
  | succ i ih =>
    rw [rg_succ]
    generalize rg i (stepK c S) (-1) = b at ih
    unfold stepK
    rcases ih with h | ⟨k, h1, h2, h3⟩
    · rw [if_neg (by omega)]
      by_cases g : S.1 i < 0 ∧ 0 ≤ nextF c (S.2.2 i) i
      · rw [if_pos g]; exact Or.inr ⟨i, by omega, rfl, g⟩
      · rw [if_neg g]; exact Or.inl h
    · rw [if_pos (by omega)]
      exact Or.inr ⟨k, by omega, h2, h3⟩
def fset {α : Type} (f : Nat → α) (k : Nat) (v : α) : Nat → α := fun j => if j = k then v else f j
/-- he asks her -/
def askS (c : Nat → Int) (S : PS) (k e : Nat) : PS :=
  if S.2.1 e < 0 then (fset S.1 k (e : Int), fset S.2.1 e (k : Int), fset S.2.2 k (S.2.2 k ||| 2 ^ e))
  else if FK c k e < FK c (S.2.1 e).toNat e then (fset (fset S.1 (S.2.1 e).toNat (-1)) k (e : Int), fset S.2.1 e (k : Int), fset S.2.2 k (S.2.2 k ||| 2 ^ e))
  else (S.1, S.2.1, fset S.2.2 k (S.2.2 k ||| 2 ^ e))
def stepS (c : Nat → Int) (S : PS) : PS := if askF c S < 0 then S else askS c S (askF c S).toNat (nextF c (S.2.2 (askF c S).toNat) (askF c S).toNat).toNat
def itS (c : Nat → Int) : Nat → PS → PS
  | 0, S => S
  | n + 1, S => stepS c (itS c n S)
def S0 : PS := (fun _ => -1, fun _ => -1, fun _ => 0)
/-- all within bounds -/
def PV (c : Nat → Int) (S : PS) : Prop := ∀ k : Nat, k < 6 → (S.1 k = -1 ∨ 0 ≤ S.1 k ∧ S.1 k < c 2) ∧ (S.2.1 k = -1 ∨ 0 ≤ S.2.1 k ∧ S.2.1 k < c 2) ∧ S.2.2 k < 64
theorem PV_0 (c : Nat → Int) : PV c S0 := fun k _ => ⟨Or.inl rfl, Or.inl rfl, by show 0 < 64; omega⟩
theorem PV_ask {c : Nat → Int} (hI : Ic c) {S : PS} (h : PV c S) {k e : Nat} (hk : (k : Int) < c 2) (he : (e : Int) < c 2) : PV c (askS c S k e) := by
  have h2 := hI.2.2.1
  have hor : S.2.2 k ||| 2 ^ e < 64 := Nat.or_lt_two_pow (n := 6) (h k (by omega)).2.2 (Nat.pow_lt_pow_right (by omega) (by omega))
  have ha : ∀ j, j < 6 → fset S.2.2 k (S.2.2 k ||| 2 ^ e) j < 64 := by
    intro j hj
    unfold fset
    split
    · exact hor
    · exact (h j hj).2.2
  have hh : ∀ j, j < 6 → fset S.2.1 e (k : Int) j = -1 ∨ 0 ≤ fset S.2.1 e (k : Int) j ∧ fset S.2.1 e (k : Int) j < c 2 := by
    intro j hj
    unfold fset
    split
    · right; omega
    · exact (h j hj).2.1
  intro j hj
  unfold askS
  split
  · refine ⟨?_, hh j hj, ha j hj⟩
    show fset S.1 k (e : Int) j = -1 ∨ 0 ≤ fset S.1 k (e : Int) j ∧ fset S.1 k (e : Int) j < c 2
    unfold fset
    split
    · right; omega
    · exact (h j hj).1
  · split
    · refine ⟨?_, hh j hj, ha j hj⟩
      show fset (fset S.1 (S.2.1 e).toNat (-1)) k (e : Int) j = -1 ∨ 0 ≤ fset (fset S.1 (S.2.1 e).toNat (-1)) k (e : Int) j ∧ fset (fset S.1 (S.2.1 e).toNat (-1)) k (e : Int) j < c 2
      unfold fset
      split
      · right; omega
      · split
        · left; rfl
        · exact (h j hj).1
    · exact ⟨(h j hj).1, (h j hj).2.1, ha j hj⟩
theorem cntB_upd {p p2 : Nat → Bool} {v : Nat} : ∀ n, v < n → p v = false → p2 v = true → (∀ i, i < n → i ≠ v → p2 i = p i) → cntB p2 n = cntB p n + 1
  | 0, h, _, _, _ => by omega
  | n + 1, h, h1, h2, h3 => by
    unfold cntB
    by_cases e : v = n
    · subst e
      rw [cntB_congr (p := p2) (p2 := p) v (fun i hi => h3 i (by omega) (by omega)), h1, h2]
      simp
    · rw [cntB_upd n (by omega) h1 h2 (fun i hi hne => h3 i (by omega) hne), h3 n (by omega) (fun h => e h.symm)]
      omega
theorem pc_add {A e : Nat} (he : e < 10) (h : A.testBit e = false) : pc (A ||| 2 ^ e) = pc A + 1 := by
  refine cntB_upd 10 he h ?_ (fun i hi hne => ?_)
  · rw [Nat.testBit_or, Nat.testBit_two_pow]; simp
  · have : ¬ e = i := fun h => hne h.symm
    rw [Nat.testBit_or, Nat.testBit_two_pow]
    simp [this]
def tot (S : PS) : Nat := pc (S.2.2 0) + pc (S.2.2 1) + pc (S.2.2 2) + pc (S.2.2 3) + pc (S.2.2 4) + pc (S.2.2 5)
theorem ask_22 (c : Nat → Int) (S : PS) (k e : Nat) : (askS c S k e).2.2 = fset S.2.2 k (S.2.2 k ||| 2 ^ e) := by
  unfold askS
  split
  · rfl
  · split <;> rfl
theorem tot_ask {c : Nat → Int} {S : PS} {k e : Nat} (hk : k < 6) (he : e < 10) (hb : (S.2.2 k).testBit e = false) : tot (askS c S k e) = tot S + 1 := by
  have hp := pc_add he hb
  unfold tot
  rw [ask_22]
  unfold fset
  rcases (by omega : k = 0 ∨ k = 1 ∨ k = 2 ∨ k = 3 ∨ k = 4 ∨ k = 5) with rfl | rfl | rfl | rfl | rfl | rfl <;> simp <;> omega
theorem tot_le {c : Nat → Int} {S : PS} (h : PV c S) : tot S ≤ 36 := by
  have hp : ∀ k, k < 6 → pc (S.2.2 k) ≤ 6 := by
    intro k hk
    have hb : S.2.2 k < 2 ^ 6 := (h k hk).2.2
    exact (pc_top (n := 6) (by omega) hb).1
  have a0 := hp 0 (by omega)
  have a1 := hp 1 (by omega)
  have a2 := hp 2 (by omega)
  have a3 := hp 3 (by omega)
  have a4 := hp 4 (by omega)
  have a5 := hp 5 (by omega)
  unfold tot
  omega
theorem step_facts {c : Nat → Int} (hI : Ic c) {S : PS} (h : PV c S) : (askF c S = -1 ∧ stepS c S = S) ∨ ∃ k e : Nat, askF c S = (k : Int) ∧ (k : Int) < c 2 ∧ nextF c (S.2.2 k) k = (e : Int) ∧ (e : Int) < c 2 ∧ (S.2.2 k).testBit e = false ∧ S.1 k < 0 ∧ stepS c S = askS c S k e := by
  have h2 := hI.2.2.1
  rcases ask_inv c S (c 2).toNat with h' | ⟨k, h1, h3, h4, h5⟩
  · left
    have ha : askF c S = -1 := h'
    refine ⟨ha, ?_⟩
    unfold stepS
    rw [if_pos (by omega)]
  · right
    have ha : askF c S = (k : Int) := h3
    rcases nextF_r hI (S.2.2 k) k with hn | ⟨e, hn1, hn2, hn3⟩
    · omega
    · refine ⟨k, e, ha, by omega, hn1, hn2, hn3, h4, ?_⟩
      unfold stepS
      rw [if_neg (by omega), ha, tnc, hn1, tnc]
theorem PV_step {c : Nat → Int} (hI : Ic c) {S : PS} (h : PV c S) : PV c (stepS c S) := by
  rcases step_facts hI h with ⟨_, e⟩ | ⟨k, e, _, h1, _, h2, _, _, e2⟩
  · rw [e]; exact h
  · rw [e2]; exact PV_ask hI h h1 h2
theorem itS_fix {c : Nat → Int} {S : PS} (h : askF c S = -1) : ∀ n, itS c n S = S
  | 0 => rfl
  | n + 1 => by
    show stepS c (itS c n S) = S
    rw [itS_fix h n]
    unfold stepS
    rw [if_pos (by omega)]
theorem itS_add (c : Nat → Int) (S : PS) (m : Nat) : ∀ n, itS c n (itS c m S) = itS c (m + n) S
  | 0 => rfl
  | n + 1 => by
    show stepS c (itS c n (itS c m S)) = stepS c (itS c (m + n) S)
    rw [itS_add c S m n]
/-! the model -/
def PRm (S : PS) (M : AM) : Prop := ∀ k, k < 6 → M 11 k = S.1 k ∧ M 12 k = S.2.1 k ∧ M 13 k = ((S.2.2 k : Nat) : Int)
theorem m_nextAsked {c : Nat → Int} {M : AM} (hI : Ic c) (h5 : M 5 = c) (hL : Lf c M) {S : PS} (hV : PV c S) (hP : PRm S M) {k : Nat} (hk : (k : Int) < c 2) : f_X11_nextAsked (k : Int) M = some (nextF c (S.2.2 k) k, M) := by
  have h0 := hI.1
  have h2 := hI.2.2.1
  have hk2 := Ic_k hI hk
  have hA := (hV k (by omega)).2.2
  have h13 : M 13 k = ((S.2.2 k : Nat) : Int) := (hP k (by omega)).2.2
  unfold f_X11_nextAsked
  refine up_loop0 (fun n i (s : Int) => f_X11_nextAsked_4 n (k : Int) s (i : Int) M) (fun i => rg i (stepN c (S.2.2 k) k) (-1)) (c 2).toNat _ (-1) rfl ?_ ?_ (by omega)
  · intro n i hi
    have hb := next_inv c (S.2.2 k) k i
    have hi2 := Ic_k hI (k := i) (by omega)
    simp only [f_X11_nextAsked_4, h5, tn2, tnc, h13]
    rw [if_neg (by omega), if_pos (by omega), m_has (by omega) (by omega), bind_s, rg_succ]
    generalize rg i (stepN c (S.2.2 k) k) (-1) = b at hb
    dsimp only
    unfold stepN
    cases ht : (S.2.2 k).testBit i
    · simp only [Bool.false_eq_true, if_false, not_true_eq_false, false_or]
      simp (disch := omega) only [o_add_eq (x := 47) (y := (k : Int)), o_add_eq (x := 53) (y := (i : Int)), tp47, tp53]
      rw [if_pos (by omega), if_pos (by omega), h5, m_isHeard hL (by omega) (by omega), bind_s, h5]
      have eK : FD c (c (47 + k)) (c (53 + i)) = FK c k i := rfl
      rw [eK]
      by_cases g : FK c k i ≤ c 3
      · simp only [if_pos g, i10, not_false_eq_true, if_true, g, not_true_eq_false, if_false]
        by_cases g2 : b < 0
        · rw [if_pos g2, if_pos g2, o_succ (by omega)]
        · obtain ⟨bn, rfl⟩ : ∃ bn : Nat, b = (bn : Int) := ⟨b.toNat, by omega⟩
          have hb2 : (bn : Int) < c 2 := by omega
          have hb3 := Ic_k hI hb2
          rw [if_neg g2, if_neg g2, h5, m_farOf hL (by omega) (by omega), bind_s]
          dsimp only
          simp (disch := omega) only [o_add_eq (x := 53), tp53]
          rw [if_pos (by omega), h5, m_farOf hL (by omega) (by omega), bind_s, tnc]
          dsimp only
          rw [eK]
          have eK2 : FD c (c (47 + k)) (c (53 + bn)) = FK c k bn := rfl
          rw [eK2, o_succ (by omega)]
          by_cases g3 : FK c k i < FK c k bn
          · rw [if_neg (by omega), if_pos g3]
          · rw [if_pos (by omega), if_neg g3]
      · simp only [if_neg g, i00, not_true_eq_false, if_false, g, not_false_eq_true, if_true]
        rw [o_succ (by omega)]
    · simp only [if_true, i10, not_false_eq_true, true_or]
      rw [o_succ (by omega)]
  · intro n
    simp only [f_X11_nextAsked_4, h5, tn2]
    rw [if_pos (by omega)]
    rfl
theorem m_asker {c : Nat → Int} {M : AM} (hI : Ic c) (h5 : M 5 = c) (hL : Lf c M) {S : PS} (hV : PV c S) (hP : PRm S M) : f_X11_asker M = some (askF c S, M) := by
  have h2 := hI.2.2.1
  have hw : Wp (f_X11_asker_2 zB 0 M) (fun r => r = (askF c S, M)) := by
    refine up_loopP0 (fun n i (s : Unit) => f_X11_asker_2 n (i : Int) M) (fun i _ => rg i (stepK c S) (-1) = -1) _ (c 2).toNat () rfl ?_ ?_ (by omega)
    · intro n i s hi hinv
      have h11 := (hP i (by omega)).1
      show (∃ s2 : Unit, _ ∧ f_X11_asker_2 (n + 1) (i : Int) M = f_X11_asker_2 n _ M) ∨ Wp (f_X11_asker_2 (n + 1) (i : Int) M) _
      simp only [f_X11_asker_2, h5, tn2, tnc, h11]
      rw [if_neg (by omega), if_pos (by omega)]
      have hst : rg (i + 1) (stepK c S) (-1) = if S.1 i < 0 ∧ 0 ≤ nextF c (S.2.2 i) i then (i : Int) else -1 := by
        rw [rg_succ, hinv]
        unfold stepK
        rw [if_neg (by omega)]
      by_cases g : 0 ≤ S.1 i
      · left
        rw [if_pos g, o_succ (by omega)]
        exact ⟨(), by rw [hst, if_neg (by omega)], rfl⟩
      · rw [if_neg g, m_nextAsked hI h5 hL hV hP (by omega), bind_s]
        dsimp only
        by_cases g2 : nextF c (S.2.2 i) i < 0
        · left
          rw [if_pos g2, o_succ (by omega)]
          exact ⟨(), by rw [hst, if_neg (by omega)], rfl⟩
        · right
          rw [if_neg g2]
          refine wp_some ?_
          have e1 : rg (i + 1) (stepK c S) (-1) = (i : Int) := by rw [hst, if_pos ⟨by omega, by omega⟩]
          have e2 : askF c S = (i : Int) := by
            unfold askF
            rw [ask_stay c S (i := i + 1) (by rw [e1]; omega) _ (by omega), e1]
          rw [e2]
    · intro n s hinv
      show Wp (f_X11_asker_2 (n + 1) (((c 2).toNat : Nat) : Int) M) _
      simp only [f_X11_asker_2, h5, tn2]
      rw [if_pos (by omega)]
      exact wp_some (by rw [show askF c S = -1 from hinv])
  obtain ⟨r, e, hr⟩ := hw
  unfold f_X11_asker
  rw [e, hr]
