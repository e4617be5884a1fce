/-! TEXTS: numbers -/
def WD (n : Nat) (v : Int) : Prop := 0 ≤ v ∧ v ≤ 9999 ∧ (n < 4 → v ≤ 999) ∧ (n < 3 → v ≤ 99) ∧ (n < 2 → v ≤ 9) ∧ (n < 1 → v = 0)
theorem WD_step {n : Nat} {v d : Int} (h : WD n v) (hn : n < 4) (hd : 0 ≤ d ∧ d ≤ 9) : v ≤ 999 ∧ WD (n + 1) (v * 10 + d) := by
  obtain ⟨h1, h2, h3, h4, h5, h6⟩ := h
  unfold WD
  rcases (by omega : n = 0 ∨ n = 1 ∨ n = 2 ∨ n = 3) with rfl | rfl | rfl | rfl <;> omega
theorem WD_long {n : Nat} {v : Int} (h : WD n v) (hn : 4 ≤ n) : WD (n + 1) v := by
  obtain ⟨h1, h2, h3, h4, h5, h6⟩ := h
  exact ⟨h1, h2, fun h => by omega, fun h => by omega, fun h => by omega, fun h => by omega⟩
theorem adv_num {L p0 : Nat} : ∀ (j p : Nat) (A B : AM), p + j = L → p0 ≤ p → TX L A B → A 20 11 = (p : Int) → B 0 16 = (p : Int) → B 0 15 = (p0 : Int) → WD (p - p0) (A 20 4) → A 20 4 = B 0 17 →
    ∃ (q : Nat) (A' B' : AM), p ≤ q ∧ q ≤ L ∧ CF A A' ∧ MF B B' ∧ A' 20 11 = (q : Int) ∧ B' 0 16 = (q : Int) ∧ A' 20 4 = B' 0 17 ∧ (0 ≤ A' 20 4 ∧ A' 20 4 ≤ 9999) ∧ A' 20 0 = B' 0 14 ∧ (A' 20 0 = 2 ∨ A' 20 0 = 4) ∧ (∀ i, i ≠ 0 → i ≠ 4 → i ≠ 11 → A' 20 i = A 20 i) ∧ (∀ i, i ≠ 14 → i ≠ 16 → i ≠ 17 → B' 0 i = B 0 i) ∧
      (p < L → 48 ≤ A 21 p → A 21 p ≤ 57 → p < q) ∧ (∀ f, j < f → f_X5_scanNumber_7 f ((p - p0 : Nat) : Int) A = some A') ∧ ∀ f, j < f → f_X11_advance_210 f B = some B' := by
  intro j
  -- the end of the NUMBER
  have fin : ∀ (p : Nat) (A B : AM), p ≤ L → p0 ≤ p → TX L A B → A 20 11 = (p : Int) → B 0 16 = (p : Int) → B 0 15 = (p0 : Int) → WD (p - p0) (A 20 4) → A 20 4 = B 0 17 → ∃ (A' B' : AM), CF A A' ∧ MF B B' ∧ A' 20 11 = (p : Int) ∧ B' 0 16 = (p : Int) ∧ A' 20 4 = B' 0 17 ∧ (0 ≤ A' 20 4 ∧ A' 20 4 ≤ 9999) ∧ A' 20 0 = B' 0 14 ∧ (A' 20 0 = 2 ∨ A' 20 0 = 4) ∧ (∀ i, i ≠ 0 → i ≠ 4 → i ≠ 11 → A' 20 i = A 20 i) ∧ (∀ i, i ≠ 14 → i ≠ 16 → i ≠ 17 → B' 0 i = B 0 i) ∧ f_X5_scanNumber_78 ((p - p0 : Nat) : Int) A = some A' ∧ (if o_sub (B 0 16) (B 0 15) ≤ 4 then (zlet (am_upd B 0 14 2) fun M3 => some M3) else (zlet (am_upd B 0 14 4) fun M4 => some M4)) = some B' := by
    intro p A B hpL hp0 hT e1 e2 e3 hW e4
    have t0 := hT.1
    have hsub : o_sub (p : Int) (p0 : Int) = ((p - p0 : Nat) : Int) := by rw [o_sub_eq (by omega) (by omega)]; omega
    have hv : 0 ≤ A 20 4 ∧ A 20 4 ≤ 9999 := ⟨hW.1, hW.2.1⟩
    rw [e2, e3, hsub]
    unfold f_X5_scanNumber_78
    by_cases g : (4 : Int) < ((p - p0 : Nat) : Int)
    · rw [if_pos g, if_neg (by omega), zlet_eq, zlet_eq]
      refine ⟨_, _, CF_upd _ (by omega) (CF_refl A), MF_upd _ (by omega) (MF_refl B), ?_, ?_, ?_, ?_, ?_, ?_, fun i h _ _ => am_upd_ne (fun h2 => h h2.2), fun i h _ _ => am_upd_ne (fun h2 => h h2.2), rfl, rfl⟩
      · rw [am_upd_ne (by omega)]; exact e1
      · rw [am_upd_ne (by omega)]; exact e2
      · rw [am_upd_ne (by omega), am_upd_ne (by omega)]; exact e4
      · rw [am_upd_ne (by omega)]; exact hv
      · rw [am_upd_self, am_upd_self]
      · rw [am_upd_self]; exact Or.inr rfl
    · rw [if_neg g, if_pos (by omega), zlet_eq, zlet_eq]
      refine ⟨_, _, CF_upd _ (by omega) (CF_refl A), MF_upd _ (by omega) (MF_refl B), ?_, ?_, ?_, ?_, ?_, ?_, fun i h _ _ => am_upd_ne (fun h2 => h h2.2), fun i h _ _ => am_upd_ne (fun h2 => h h2.2), rfl, rfl⟩
      · rw [am_upd_ne (by omega)]; exact e1
      · rw [am_upd_ne (by omega)]; exact e2
      · rw [am_upd_ne (by omega), am_upd_ne (by omega)]; exact e4
      · rw [am_upd_ne (by omega)]; exact hv
      · rw [am_upd_self, am_upd_self]
      · rw [am_upd_self]; exact Or.inl rfl
  induction j with
  | zero =>
    intro p A B hp hp0 hT e1 e2 e3 hW e4
    have t0 := hT.1
    have t1 := hT.2.1
    have hlook := m_look hT (p := p) (by omega)
    rw [if_neg (by omega)] at hlook
    obtain ⟨A', B', h1, h2, h3, h4, h5, h6, h7, h8, h9, h10, h11, h12⟩ := fin p A B (by omega) hp0 hT e1 e2 e3 hW e4
    refine ⟨p, A', B', Nat.le_refl _, by omega, h1, h2, h3, h4, h5, h6, h7, h8, h9, h10, fun h => by omega, fun f hf => ?_, fun f hf => ?_⟩
    · obtain ⟨f2, rfl⟩ : ∃ f2, f = f2 + 1 := ⟨f - 1, by omega⟩
      rw [f_X5_scanNumber_7, if_pos (by omega)]
      exact h11
    · obtain ⟨f2, rfl⟩ : ∃ f2, f = f2 + 1 := ⟨f - 1, by omega⟩
      rw [f_X11_advance_210, e2, hlook, bind_s]
      dsimp only
      rw [m_isDigit, bind_s, if_neg (show ¬ ((48 : Int) ≤ 0 ∧ (0 : Int) ≤ 57) by decide)]
      dsimp only
      rw [if_pos rfl]
      exact h12
  | succ j ih =>
    intro p A B hp hp0 hT e1 e2 e3 hW e4
    have t0 := hT.1
    have t1 := hT.2.1
    have t2 := hT.2.2.1
    obtain ⟨b, b1, b2, b3, b4, b5⟩ := byteC hT (p := p) (by omega)
    have hlook := m_look hT (p := p) (by omega)
    rw [if_pos (by omega), b2, b5] at hlook
    have hsub : o_sub (p : Int) (p0 : Int) = ((p - p0 : Nat) : Int) := by rw [o_sub_eq (by omega) (by omega)]; omega
    by_cases g : 48 ≤ b ∧ b ≤ 57
    · have gb : (if b < 0 then b + 256 else b) = b := if_neg (by omega)
      rw [gb] at hlook
      by_cases g8 : 4 ≤ p - p0
      · obtain ⟨q, A', B', h1, h2, h3, h4, h5, h6, h7, h8, h9, h10, h11, h12, _, h13, h14⟩ := ih (p + 1) (am_upd A 20 11 ((p + 1 : Nat) : Int)) (am_upd B 0 16 ((p + 1 : Nat) : Int)) (by omega) (by omega) (TX_F hT (CF_upd _ (by omega) (CF_refl A)) (MF_upd _ (by omega) (MF_refl B))) (am_upd_self _ _ _ _) (am_upd_self _ _ _ _) (by rw [am_upd_ne (by omega)]; exact e3) (by
            rw [am_upd_ne (by omega), show p + 1 - p0 = p - p0 + 1 by omega]
            exact WD_long hW g8) (by rw [am_upd_ne (by omega), am_upd_ne (by omega)]; exact e4)
        refine ⟨q, A', B', by omega, h2, CF_trans (CF_upd _ (by omega) (CF_refl A)) h3, MF_trans (MF_upd _ (by omega) (MF_refl B)) h4, h5, h6, h7, h8, h9, h10, fun i i1 i2 i3 => ?_, fun i i1 i2 i3 => ?_, fun _ _ _ => by omega, fun f hf => ?_, fun f hf => ?_⟩
        · rw [h11 i i1 i2 i3, am_upd_ne (by omega)]
        · rw [h12 i i1 i2 i3, am_upd_ne (by omega)]
        · obtain ⟨f2, rfl⟩ : ∃ f2, f = f2 + 1 := ⟨f - 1, by omega⟩
          rw [f_X5_scanNumber_7, if_neg (by omega), e1, if_pos (by omega), tnc, b1, x_isDigit, bind_s, if_pos g]
          dsimp only
          rw [if_neg (by decide), if_pos (by omega), zlet_eq, e1, o_succ (by omega), o_succ (by omega), show p - p0 + 1 = p + 1 - p0 by omega]
          exact h13 f2 (by omega)
        · obtain ⟨f2, rfl⟩ : ∃ f2, f = f2 + 1 := ⟨f - 1, by omega⟩
          rw [f_X11_advance_210, e2, hlook, bind_s]
          dsimp only
          rw [m_isDigit, bind_s, if_pos g]
          dsimp only
          rw [if_neg (by decide)]
          simp only [e2, e3, hsub]
          rw [if_pos (by omega), zlet_eq, o_succ (by omega)]
          exact h14 f2 (by omega)
      · obtain ⟨w1, w2⟩ := WD_step hW (by omega) (d := b - 48) (by omega)
        have w0 := hW.1
        obtain ⟨q, A', B', h1, h2, h3, h4, h5, h6, h7, h8, h9, h10, h11, h12, _, h13, h14⟩ := ih (p + 1) (am_upd (am_upd A 20 4 (A 20 4 * 10 + (b - 48))) 20 11 ((p + 1 : Nat) : Int)) (am_upd (am_upd B 0 17 (A 20 4 * 10 + (b - 48))) 0 16 ((p + 1 : Nat) : Int)) (by omega) (by omega) (TX_F hT (CF_upd _ (by omega) (CF_upd _ (by omega) (CF_refl A))) (MF_upd _ (by omega) (MF_upd _ (by omega) (MF_refl B)))) (am_upd_self _ _ _ _) (am_upd_self _ _ _ _) (by rw [am_upd_ne (by omega), am_upd_ne (by omega)]; exact e3) (by
            rw [am_upd_ne (by omega), am_upd_self, show p + 1 - p0 = p - p0 + 1 by omega]
            exact w2) (by rw [am_upd_ne (by omega), am_upd_self, am_upd_ne (by omega), am_upd_self])
        refine ⟨q, A', B', by omega, h2, CF_trans (CF_upd _ (by omega) (CF_upd _ (by omega) (CF_refl A))) h3, MF_trans (MF_upd _ (by omega) (MF_upd _ (by omega) (MF_refl B))) h4, h5, h6, h7, h8, h9, h10, fun i i1 i2 i3 => ?_, fun i i1 i2 i3 => ?_, fun _ _ _ => by omega, fun f hf => ?_, fun f hf => ?_⟩
        · rw [h11 i i1 i2 i3, am_upd_ne (by omega), am_upd_ne (by omega)]
        · rw [h12 i i1 i2 i3, am_upd_ne (by omega), am_upd_ne (by omega)]
        · obtain ⟨f2, rfl⟩ : ∃ f2, f = f2 + 1 := ⟨f - 1, by omega⟩
          have ew : o_add (o_mul (A 20 4) 10) (o_sub b 48) = A 20 4 * 10 + (b - 48) := by
            rw [o_mul_eq (by omega) (by omega), o_sub_eq (by omega) (by omega), o_add_eq (by omega) (by omega)]
          rw [f_X5_scanNumber_7, if_neg (by omega), e1, if_pos (by omega), tnc, b1, x_isDigit, bind_s, if_pos g]
          dsimp only
          rw [if_neg (by decide), if_neg (by omega)]
          simp only [e1]
          rw [if_pos (by omega), tnc, b1, ew, zlet_eq, zlet_eq, am_upd_ne (by omega), e1, o_succ (by omega), o_succ (by omega), show p - p0 + 1 = p + 1 - p0 by omega]
          exact h13 f2 (by omega)
        · obtain ⟨f2, rfl⟩ : ∃ f2, f = f2 + 1 := ⟨f - 1, by omega⟩
          have ew : o_sub (o_add (o_mul 10 (B 0 17)) b) 48 = A 20 4 * 10 + (b - 48) := by
            rw [← e4, o_mul_eq (by omega) (by omega), o_add_eq (by omega) (by omega), o_sub_eq (by omega) (by omega)]; omega
          rw [f_X11_advance_210, e2, hlook, bind_s]
          dsimp only
          rw [m_isDigit, bind_s, if_pos g]
          dsimp only
          rw [if_neg (by decide)]
          simp only [e2, e3, hsub]
          rw [if_neg (by omega), hlook, bind_s]
          dsimp only
          rw [ew, zlet_eq, zlet_eq, am_upd_ne (by omega), e2, o_succ (by omega)]
          exact h14 f2 (by omega)
    · have gb : ¬ (48 ≤ (if b < 0 then b + 256 else b) ∧ (if b < 0 then b + 256 else b) ≤ 57) := by
        by_cases g2 : b < 0
        · rw [if_pos g2]; omega
        · rw [if_neg g2]; exact g
      obtain ⟨A', B', h1, h2, h3, h4, h5, h6, h7, h8, h9, h10, h11, h12⟩ := fin p A B (by omega) hp0 hT e1 e2 e3 hW e4
      refine ⟨p, A', B', Nat.le_refl _, by omega, h1, h2, h3, h4, h5, h6, h7, h8, h9, h10, fun _ g1 g2 => by rw [b1] at g1 g2; exact absurd ⟨g1, g2⟩ g, fun f hf => ?_, fun f hf => ?_⟩
      · obtain ⟨f2, rfl⟩ : ∃ f2, f = f2 + 1 := ⟨f - 1, by omega⟩
        rw [f_X5_scanNumber_7, if_neg (by omega), e1, if_pos (by omega), tnc, b1, x_isDigit, bind_s, if_neg g]
        dsimp only
        rw [if_pos rfl]
        exact h11
      · obtain ⟨f2, rfl⟩ : ∃ f2, f = f2 + 1 := ⟨f - 1, by omega⟩
        rw [f_X11_advance_210, e2, hlook, bind_s]
        dsimp only
        rw [m_isDigit, bind_s, if_neg gb]
        dsimp only
        rw [if_pos rfl]
        exact h12
/-! the words that are kept -/
def KW (K w : Int) : Prop := (K = -1 ∧ ∀ i : Nat, i < 23 → w ≠ kwl.getD i 0) ∨ ∃ i : Nat, i < 23 ∧ K = (i : Int) ∧ w = kwl.getD i 0
theorem kw_loop {A : AM} (hk : Rk A) : ∀ (j i : Nat), i + j = 23 → A 20 3 = -1 → (∀ e, e < i → A 20 2 ≠ kwl.getD e 0) → ∃ K, KW K (A 20 2) ∧ ∀ f, j < f → f_X5_scanWord_103 f (i : Int) A = some (am_upd A 20 3 K) := by
  intro j
  induction j with
  | zero =>
    intro i hi h3 hn
    refine ⟨-1, Or.inl ⟨rfl, fun e he => hn e (by omega)⟩, fun f hf => ?_⟩
    obtain ⟨f2, rfl⟩ : ∃ f2, f = f2 + 1 := ⟨f - 1, by omega⟩
    rw [f_X5_scanWord_103, if_pos (by omega), am_upd_nop h3]
  | succ j ih =>
    intro i hi h3 hn
    have hki := hk i (by omega)
    by_cases g : kwl.getD i 0 = A 20 2
    · refine ⟨(i : Int), Or.inr ⟨i, by omega, rfl, g.symm⟩, fun f hf => ?_⟩
      obtain ⟨f2, rfl⟩ : ∃ f2, f = f2 + 1 + 1 := ⟨f - 2, by omega⟩
      rw [f_X5_scanWord_103, if_neg (by omega), if_neg (fun h => h h3), if_pos (by omega), tnc, hki, if_neg (fun h => h ((l_cmp_eq _ _).mpr g)), zlet_eq, o_succ (by omega), f_X5_scanWord_103]
      by_cases g2 : (23 : Int) ≤ ((i + 1 : Nat) : Int)
      · rw [if_pos g2]
      · rw [if_neg g2, if_pos (by rw [am_upd_self]; omega)]
    · obtain ⟨K, k1, k2⟩ := ih (i + 1) (by omega) h3 (fun e he => by
        by_cases g2 : e = i
        · subst g2; exact fun h => g h.symm
        · exact hn e (by omega))
      refine ⟨K, k1, fun f hf => ?_⟩
      obtain ⟨f2, rfl⟩ : ∃ f2, f = f2 + 1 := ⟨f - 1, by omega⟩
      rw [f_X5_scanWord_103, if_neg (by omega), if_neg (fun h => h h3), if_pos (by omega), tnc, hki, if_pos (fun h => g ((l_cmp_eq _ _).mp h)), o_succ (by omega)]
      exact k2 f2 (by omega)
theorem kwl_lt {i : Nat} (hi : i < 23) : 1 ≤ kwl.getD i 0 ∧ kwl.getD i 0 < 34359738368 := by
  have : ∀ i : Fin 23, 1 ≤ kwl.getD i.val 0 ∧ kwl.getD i.val 0 < 34359738368 := by decide +kernel
  exact this ⟨i, hi⟩
/-- the TOKEN that both sides look at -/
def TK (L : Nat) (A B : AM) : Prop :=
  TX L A B ∧ (A 20 11 = B 0 16 ∧ 0 ≤ A 20 11 ∧ A 20 11 ≤ (L : Int)) ∧ (A 20 0 = B 0 14 ∧ 0 ≤ A 20 0 ∧ A 20 0 ≤ 4) ∧ (A 20 1 = B 0 15 ∧ 0 ≤ A 20 1 ∧ A 20 1 ≤ (L : Int)) ∧ (A 20 0 = 0 → A 20 1 = (L : Int)) ∧
  (A 20 0 = 1 → A 20 8 = B 0 18 ∧ KW (A 20 3) (B 0 19) ∧ (A 20 8 ≤ 8 → A 20 2 = B 0 19 ∧ 1 ≤ B 0 19)) ∧ (¬ A 20 0 = 1 → A 20 3 = -1) ∧ (A 20 0 = 2 ∨ A 20 0 = 3 → A 20 4 = B 0 17 ∧ 0 ≤ B 0 17 ∧ B 0 17 ≤ 9999)
/-- further on -/
def Adv (A A' : AM) : Prop := A 20 11 ≤ A' 20 11 ∧ (A' 20 0 = 0 ∨ A 20 11 < A' 20 11)
theorem isSign_m (x : Int) (M : AM) : f_X11_isSignByte x M = some (if x = 59 ∨ x = 60 ∨ x = 62 ∨ x = 61 then 1 else 0, M) := by
  unfold f_X11_isSignByte
  by_cases h1 : x = 59
  · rw [if_pos h1, if_pos (Or.inl h1)]
  · rw [if_neg h1]
    by_cases h2 : x = 60
    · rw [if_pos h2, if_pos (Or.inr (Or.inl h2))]
    · rw [if_neg h2]
      by_cases h3 : x = 62
      · rw [if_pos h3, if_pos (Or.inr (Or.inr (Or.inl h3)))]
      · rw [if_neg h3]
        by_cases h4 : x = 61
        · rw [if_neg (fun h => h h4), if_pos (Or.inr (Or.inr (Or.inr h4)))]
        · rw [if_pos h4, if_neg (by omega)]
