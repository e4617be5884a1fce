/-! TEXTS: bytes -/
theorem o_and255 {b : Int} (h1 : -128 ≤ b) (h2 : b ≤ 127) : o_and b 255 = if b < 0 then b + 256 else b := by
  have h : ∀ n : Fin 256, o_and ((n.val : Int) - 128) 255 = if ((n.val : Int) - 128) < 0 then ((n.val : Int) - 128) + 256 else (n.val : Int) - 128 := by decide +kernel
  have := h ⟨(b + 128).toNat, by omega⟩
  have e : (((⟨(b + 128).toNat, by omega⟩ : Fin 256).val : Nat) : Int) - 128 = b := by show (((b + 128).toNat : Nat) : Int) - 128 = b; omega
  rw [e] at this
  exact this
theorem x_isLetter (a : Int) (M : AM) : f_X5_isLetter a M = some (if 97 ≤ a ∧ a ≤ 122 then 1 else 0, M) := by
  unfold f_X5_isLetter
  by_cases h1 : a < 97
  · rw [if_pos h1, if_neg (by omega)]
  · rw [if_neg h1]
    by_cases h2 : 122 < a
    · rw [if_pos h2, if_neg (by omega)]
    · rw [if_neg h2, if_pos (by omega)]
theorem m_isLetter (a : Int) (M : AM) : f_X11_isLetter a M = some (if 97 ≤ a ∧ a ≤ 122 then 1 else 0, M) := x_isLetter a M
theorem x_isDigit (a : Int) (M : AM) : f_X5_isDigit a M = some (if 48 ≤ a ∧ a ≤ 57 then 1 else 0, M) := by
  unfold f_X5_isDigit
  by_cases h1 : a < 48
  · rw [if_pos h1, if_neg (by omega)]
  · rw [if_neg h1]
    by_cases h2 : 57 < a
    · rw [if_pos h2, if_neg (by omega)]
    · rw [if_neg h2, if_pos (by omega)]
theorem m_isDigit (a : Int) (M : AM) : f_X11_isDigit a M = some (if 48 ≤ a ∧ a ≤ 57 then 1 else 0, M) := x_isDigit a M
/-- the TEXT on both sides, L bytes -/
def TX (L : Nat) (A B : AM) : Prop := L ≤ 900 ∧ A 20 10 = (L : Int) ∧ B 0 9 = (L : Int) ∧ (∀ k, k < L → A 21 k = B 4 k ∧ -128 ≤ B 4 k ∧ B 4 k ≤ 127) ∧ Rk A
/-- what reading a TOKEN may touch -/
def CF (A A' : AM) : Prop := (∀ x, x ≠ 20 → A' x = A x) ∧ ∀ j, j = 5 ∨ j = 6 ∨ j = 7 ∨ j = 10 → A' 20 j = A 20 j
def MF (B B' : AM) : Prop := (∀ x, x ≠ 0 → B' x = B x) ∧ ∀ j, j < 14 ∨ 19 < j → B' 0 j = B 0 j
theorem CF_refl (A : AM) : CF A A := ⟨fun _ _ => rfl, fun _ _ => rfl⟩
theorem MF_refl (A : AM) : MF A A := ⟨fun _ _ => rfl, fun _ _ => rfl⟩
theorem CF_trans {A A2 A3 : AM} (h1 : CF A A2) (h2 : CF A2 A3) : CF A A3 := ⟨fun x hx => (h2.1 x hx).trans (h1.1 x hx), fun j hj => (h2.2 j hj).trans (h1.2 j hj)⟩
theorem MF_trans {A A2 A3 : AM} (h1 : MF A A2) (h2 : MF A2 A3) : MF A A3 := ⟨fun x hx => (h2.1 x hx).trans (h1.1 x hx), fun j hj => (h2.2 j hj).trans (h1.2 j hj)⟩
theorem CF_upd {A A' : AM} {j : Nat} (v : Int) (hj : j ≠ 5 ∧ j ≠ 6 ∧ j ≠ 7 ∧ j ≠ 10) (h : CF A A') : CF A (am_upd A' 20 j v) :=
  ⟨fun x hx => by rw [am_upd_cell hx]; exact h.1 x hx, fun i hi => by rw [am_upd_ne (by omega)]; exact h.2 i hi⟩
theorem MF_upd {A A' : AM} {j : Nat} (v : Int) (hj : 14 ≤ j ∧ j ≤ 19) (h : MF A A') : MF A (am_upd A' 0 j v) :=
  ⟨fun x hx => by rw [am_upd_cell hx]; exact h.1 x hx, fun i hi => by rw [am_upd_ne (by omega)]; exact h.2 i hi⟩
theorem TX_F {L : Nat} {A A' B B' : AM} (hT : TX L A B) (h1 : CF A A') (h2 : MF B B') : TX L A' B' := by
  obtain ⟨t1, t2, t3, t4, t5⟩ := hT
  refine ⟨t1, by rw [h1.2 10 (by decide)]; exact t2, by rw [h2.2 9 (by decide)]; exact t3, fun k hk => ?_, ?_⟩
  · rw [h1.1 21 (by decide), h2.1 4 (by decide)]; exact t4 k hk
  · unfold Rk at t5 ⊢
    rw [h1.1 22 (by decide)]; exact t5
theorem m_look {L p : Nat} {A B : AM} (hT : TX L A B) (hp : p ≤ L) : f_X11_look2 (p : Int) B = some (if p < L then o_and (B 4 p) 255 else 0, B) := by
  obtain ⟨t1, t2, t3, t4, t5⟩ := hT
  unfold f_X11_look2
  rw [t3]
  by_cases h : p < L
  · rw [if_neg (by omega), if_pos (by omega), if_pos h, tnc]
  · rw [if_pos (by omega), if_neg h]
/-- a byte as the class and the model see it -/
theorem byteC {L p : Nat} {A B : AM} (hT : TX L A B) (hp : p < L) : ∃ b : Int, A 21 p = b ∧ B 4 p = b ∧ -128 ≤ b ∧ b ≤ 127 ∧ o_and b 255 = if b < 0 then b + 256 else b := by
  obtain ⟨t1, t2, t3, t4, t5⟩ := hT
  have := t4 p hp
  exact ⟨B 4 p, this.1, rfl, this.2.1, this.2.2, o_and255 this.2.1 this.2.2⟩
/-! blanks -/
theorem adv_skip {L : Nat} : ∀ (j p : Nat) (A B : AM), p + j = L → TX L A B → A 20 11 = (p : Int) → B 0 15 = (p : Int) →
    ∃ p' : Nat, p ≤ p' ∧ p' ≤ L ∧ (∀ f, j < f → f_X5_advance_0 f A = f_X5_advance_52 (am_upd A 20 11 (p' : Int))) ∧ ∀ f, j < f → f_X11_advance_8 f B = f_X11_advance_58 (am_upd B 0 15 (p' : Int)) := by
  intro j
  induction j with
  | zero =>
    intro p A B hp hT e1 e2
    have t1 := hT.2.1
    have t2 := hT.2.2.1
    refine ⟨p, Nat.le_refl _, by omega, fun f hf => ?_, fun f hf => ?_⟩
    · obtain ⟨f2, rfl⟩ : ∃ f2, f = f2 + 1 := ⟨f - 1, by omega⟩
      rw [f_X5_advance_0, if_pos (by omega), am_upd_nop e1]
    · obtain ⟨f2, rfl⟩ : ∃ f2, f = f2 + 1 := ⟨f - 1, by omega⟩
      rw [f_X11_advance_8, if_pos (by omega), am_upd_nop e2]
  | succ j ih =>
    intro p A B hp hT e1 e2
    have t0 := hT.1
    have t1 := hT.2.1
    have t2 := hT.2.2.1
    obtain ⟨b, b1, b2, b3, b4, b5⟩ := byteC hT (p := p) (by omega)
    have hlook := m_look hT (p := p) (by omega)
    rw [if_pos (by omega), b2, b5] at hlook
    by_cases g : b = 32 ∨ b = 10
    · obtain ⟨p', h1, h2, h3, h4⟩ := ih (p + 1) (am_upd A 20 11 ((p + 1 : Nat) : Int)) (am_upd B 0 15 ((p + 1 : Nat) : Int)) (by omega) (TX_F hT (CF_upd _ (by omega) (CF_refl A)) (MF_upd _ (by omega) (MF_refl B))) (am_upd_self _ _ _ _) (am_upd_self _ _ _ _)
      refine ⟨p', by omega, h2, fun f hf => ?_, fun f hf => ?_⟩
      · obtain ⟨f2, rfl⟩ : ∃ f2, f = f2 + 1 := ⟨f - 1, by omega⟩
        rw [f_X5_advance_0, if_neg (by omega), e1, if_pos (by omega), tnc, b1, o_succ (by omega)]
        have := h3 f2 (by omega)
        rw [am_upd_tw] at this
        by_cases g2 : b = 32
        · rw [if_pos g2, zlet_eq]; exact this
        · rw [if_neg g2, if_neg (by omega), zlet_eq]; exact this
      · obtain ⟨f2, rfl⟩ : ∃ f2, f = f2 + 1 := ⟨f - 1, by omega⟩
        rw [f_X11_advance_8, if_neg (by omega), e2, hlook, bind_s]
        dsimp only
        have := h4 f2 (by omega)
        rw [am_upd_tw] at this
        rw [if_neg (show ¬ b < 0 by omega), e2, o_succ (by omega)]
        by_cases g2 : b = 10
        · rw [if_pos g2, zlet_eq]; exact this
        · rw [if_neg g2, hlook, bind_s]
          dsimp only
          rw [if_neg (show ¬ b < 0 by omega), if_neg (by omega), zlet_eq, e2, o_succ (by omega)]; exact this
    · refine ⟨p, Nat.le_refl _, by omega, fun f hf => ?_, fun f hf => ?_⟩
      · obtain ⟨f2, rfl⟩ : ∃ f2, f = f2 + 1 := ⟨f - 1, by omega⟩
        rw [am_upd_nop e1, f_X5_advance_0, if_neg (by omega), e1, if_pos (by omega), tnc, b1, if_neg (by omega), if_pos (by omega)]
      · obtain ⟨f2, rfl⟩ : ∃ f2, f = f2 + 1 := ⟨f - 1, by omega⟩
        have hb : ¬ (if b < 0 then b + 256 else b) = 10 ∧ ¬ (if b < 0 then b + 256 else b) = 32 := by
          by_cases g2 : b < 0
          · rw [if_pos g2]; omega
          · rw [if_neg g2]; omega
        rw [am_upd_nop e2, f_X11_advance_8, if_neg (by omega), e2, hlook, bind_s]
        dsimp only
        rw [if_neg hb.1, e2, hlook, bind_s]
        dsimp only
        rw [if_pos hb.2]
/-! words -/
def WW (n : Nat) (x y : Int) : Prop := ∃ u : Nat, x = (u : Int) ∧ (n ≤ 8 → y = (u : Int) ∧ u < 32 ^ n) ∧ (8 < n → y = -1) ∧ u < 32 ^ 8 ∧ (1 ≤ n → n ≤ 8 → 32 ^ (n - 1) ≤ u) ∧ (8 ≤ n → 32 ^ 7 ≤ u)
theorem WW_0 : WW 0 0 0 := ⟨0, rfl, fun _ => ⟨rfl, by decide⟩, fun h => absurd h (by decide), by decide, fun h => absurd h (by decide), fun h => absurd h (by decide)⟩
theorem pow32_le {n : Nat} (h : n ≤ 7) : 32 ^ n ≤ 34359738368 := Nat.le_trans (Nat.pow_le_pow_right (n := 32) (by decide) h) (by decide)
theorem WW_step {n : Nat} {x y d : Int} (h : WW n x y) (hn : n < 8) (hd : 1 ≤ d ∧ d ≤ 26) : x = y ∧ 0 ≤ x ∧ x < 34359738368 ∧ WW (n + 1) (x * 32 + d) (y * 32 + d) := by
  obtain ⟨u, h1, h2, h3, h4, h5, h6⟩ := h
  obtain ⟨h2a, h2b⟩ := h2 (by omega)
  have hp := pow32_le (n := n) (by omega)
  have e8 : 32 ^ 8 = 1099511627776 := by decide
  have e7 : 32 ^ 7 = 34359738368 := by decide
  refine ⟨by omega, by omega, by omega, u * 32 + d.toNat, by omega, fun _ => ⟨by omega, ?_⟩, fun h => by omega, by omega, fun _ _ => ?_, fun h8 => ?_⟩
  · rw [Nat.pow_succ]; omega
  · show 32 ^ n ≤ u * 32 + d.toNat
    by_cases h0 : n = 0
    · subst h0
      show 1 ≤ _
      omega
    · obtain ⟨m, rfl⟩ : ∃ m, n = m + 1 := ⟨n - 1, by omega⟩
      have := h5 (by omega) (by omega)
      rw [show m + 1 - 1 = m by omega] at this
      rw [Nat.pow_succ]
      omega
  · have hn7 : n = 7 := by omega
    subst hn7
    have := h5 (by decide) (by decide)
    have e6 : 32 ^ (7 - 1) = 1073741824 := by decide
    omega
theorem WW_long {n : Nat} {x y : Int} (h : WW n x y) (hn : 8 ≤ n) : WW (n + 1) x (-1) := by
  obtain ⟨u, h1, h2, h3, h4, h5, h6⟩ := h
  exact ⟨u, h1, fun h => by omega, fun _ => rfl, h4, fun _ h => by omega, fun _ => h6 hn⟩
theorem adv_word {L p0 : Nat} : ∀ (j p : Nat) (A B : AM), p + j = L → p0 ≤ p → TX L A B → A 20 11 = (p : Int) → B 0 16 = (p : Int) → B 0 15 = (p0 : Int) → A 20 8 = ((p - p0 : Nat) : Int) → WW (p - p0) (A 20 2) (B 0 19) →
    ∃ (q : Nat) (A' B' : AM), p ≤ q ∧ q ≤ L ∧ CF A A' ∧ MF B B' ∧ A' 20 11 = (q : Int) ∧ B' 0 16 = (q : Int) ∧ A' 20 8 = ((q - p0 : Nat) : Int) ∧ B' 0 18 = ((q - p0 : Nat) : Int) ∧ WW (q - p0) (A' 20 2) (B' 0 19) ∧ (∀ i, i ≠ 2 → i ≠ 8 → i ≠ 11 → A' 20 i = A 20 i) ∧ (∀ i, i ≠ 16 → i ≠ 18 → i ≠ 19 → B' 0 i = B 0 i) ∧
      (p < L → 97 ≤ A 21 p → A 21 p ≤ 122 → p < q) ∧ (∀ f, j < f → f_X5_scanWord_15 f A = f_X5_scanWord_103 zB 0 A') ∧ ∀ f, j < f → f_X11_advance_109 f B = some B' := by
  intro j
  induction j with
  | zero =>
    intro p A B hp hp0 hT e1 e2 e3 e4 hW
    have t0 := hT.1
    have t1 := hT.2.1
    have t2 := hT.2.2.1
    have hlook := m_look hT (p := p) (by omega)
    rw [if_neg (by omega)] at hlook
    refine ⟨p, A, am_upd B 0 18 ((p - p0 : Nat) : Int), Nat.le_refl _, by omega, CF_refl A, MF_upd _ (by omega) (MF_refl B), e1, ?_, e4, am_upd_self _ _ _ _, ?_, fun _ _ _ _ => rfl, fun i _ h _ => am_upd_ne (by omega), fun h => by omega, fun f hf => ?_, fun f hf => ?_⟩
    · rw [am_upd_ne (by omega)]; exact e2
    · rw [am_upd_ne (by omega)]; exact hW
    · obtain ⟨f2, rfl⟩ : ∃ f2, f = f2 + 1 := ⟨f - 1, by omega⟩
      rw [f_X5_scanWord_15, if_pos (by omega)]
    · obtain ⟨f2, rfl⟩ : ∃ f2, f = f2 + 1 := ⟨f - 1, by omega⟩
      rw [f_X11_advance_109, e2, hlook, bind_s]
      dsimp only
      rw [m_isLetter, bind_s, if_neg (show ¬ ((97 : Int) ≤ 0 ∧ (0 : Int) ≤ 122) by decide)]
      dsimp only
      rw [if_pos rfl, zlet_eq, e2, e3, o_sub_eq (by omega) (by omega), show (p : Int) - (p0 : Int) = ((p - p0 : Nat) : Int) by omega]
  | succ j ih =>
    intro p A B hp hp0 hT e1 e2 e3 e4 hW
    have t0 := hT.1
    have t1 := hT.2.1
    have t2 := hT.2.2.1
    obtain ⟨b, b1, b2, b3, b4, b5⟩ := byteC hT (p := p) (by omega)
    have hlook := m_look hT (p := p) (by omega)
    rw [if_pos (by omega), b2, b5] at hlook
    have hsub : o_sub (p : Int) (p0 : Int) = ((p - p0 : Nat) : Int) := by rw [o_sub_eq (by omega) (by omega)]; omega
    by_cases g : 97 ≤ b ∧ b ≤ 122
    · have gb : (if b < 0 then b + 256 else b) = b := if_neg (by omega)
      rw [gb] at hlook
      by_cases g8 : 8 ≤ p - p0
      · -- longer than a NAME may be
        obtain ⟨q, A', B', h1, h2, h3, h4, h5, h6, h7, h8, h9, h10, h11, _, h12, h13⟩ := ih (p + 1) (am_upd (am_upd A 20 8 ((p + 1 - p0 : Nat) : Int)) 20 11 ((p + 1 : Nat) : Int)) (am_upd (am_upd B 0 19 (-1)) 0 16 ((p + 1 : Nat) : Int)) (by omega) (by omega) (TX_F hT (CF_upd _ (by omega) (CF_upd _ (by omega) (CF_refl A))) (MF_upd _ (by omega) (MF_upd _ (by omega) (MF_refl B)))) (am_upd_self _ _ _ _) (am_upd_self _ _ _ _) (by rw [am_upd_ne (by omega), am_upd_ne (by omega)]; exact e3) (by rw [am_upd_ne (by omega), am_upd_self]) (by
            rw [am_upd_ne (by omega), am_upd_ne (by omega), am_upd_ne (by omega), am_upd_self, show p + 1 - p0 = p - p0 + 1 by omega]
            exact WW_long hW g8)
        refine ⟨q, A', B', by omega, h2, CF_trans (CF_upd _ (by omega) (CF_upd _ (by omega) (CF_refl A))) h3, MF_trans (MF_upd _ (by omega) (MF_upd _ (by omega) (MF_refl B))) h4, h5, h6, h7, h8, h9, fun i i1 i2 i3 => ?_, fun i i1 i2 i3 => ?_, fun _ _ _ => by omega, fun f hf => ?_, fun f hf => ?_⟩
        · rw [h10 i i1 i2 i3, am_upd_ne (by omega), am_upd_ne (by omega)]
        · rw [h11 i i1 i2 i3, am_upd_ne (by omega), am_upd_ne (by omega)]
        · obtain ⟨f2, rfl⟩ : ∃ f2, f = f2 + 1 := ⟨f - 1, by omega⟩
          rw [f_X5_scanWord_15, if_neg (by omega), e1, if_pos (by omega), tnc, b1, x_isLetter, bind_s, if_pos g]
          dsimp only
          rw [if_neg (by decide), if_pos (by omega), zlet_eq, zlet_eq, e4, o_succ (by omega), am_upd_ne (by omega), e1, o_succ (by omega), show p - p0 + 1 = p + 1 - p0 by omega]
          exact h12 f2 (by omega)
        · obtain ⟨f2, rfl⟩ : ∃ f2, f = f2 + 1 := ⟨f - 1, by omega⟩
          rw [f_X11_advance_109, e2, hlook, bind_s]
          dsimp only
          rw [m_isLetter, bind_s, if_pos g]
          dsimp only
          rw [if_neg (by decide)]
          simp only [e2, e3, hsub]
          rw [if_pos (by omega), zlet_eq, zlet_eq, am_upd_ne (by omega), e2, o_succ (by omega)]
          exact h13 f2 (by omega)
      · have hs := WW_step hW (by omega) (d := b - 96) (by omega)
        obtain ⟨w1, w2, w3, w4⟩ := hs
        obtain ⟨q, A', B', h1, h2, h3, h4, h5, h6, h7, h8, h9, h10, h11, _, h12, h13⟩ := ih (p + 1) (am_upd (am_upd (am_upd A 20 2 (A 20 2 * 32 + (b - 96))) 20 8 ((p + 1 - p0 : Nat) : Int)) 20 11 ((p + 1 : Nat) : Int)) (am_upd (am_upd B 0 19 (B 0 19 * 32 + (b - 96))) 0 16 ((p + 1 : Nat) : Int)) (by omega) (by omega) (TX_F hT (CF_upd _ (by omega) (CF_upd _ (by omega) (CF_upd _ (by omega) (CF_refl A)))) (MF_upd _ (by omega) (MF_upd _ (by omega) (MF_refl B)))) (am_upd_self _ _ _ _) (am_upd_self _ _ _ _) (by rw [am_upd_ne (by omega), am_upd_ne (by omega)]; exact e3) (by rw [am_upd_ne (by omega), am_upd_self]) (by
            rw [am_upd_ne (by omega), am_upd_ne (by omega), am_upd_self, am_upd_ne (by omega), am_upd_self, show p + 1 - p0 = p - p0 + 1 by omega]
            exact w4)
        refine ⟨q, A', B', by omega, h2, CF_trans (CF_upd _ (by omega) (CF_upd _ (by omega) (CF_upd _ (by omega) (CF_refl A)))) h3, MF_trans (MF_upd _ (by omega) (MF_upd _ (by omega) (MF_refl B))) h4, h5, h6, h7, h8, h9, fun i i1 i2 i3 => ?_, fun i i1 i2 i3 => ?_, fun _ _ _ => by omega, fun f hf => ?_, fun f hf => ?_⟩
        · rw [h10 i i1 i2 i3, am_upd_ne (by omega), am_upd_ne (by omega), am_upd_ne (by omega)]
        · rw [h11 i i1 i2 i3, am_upd_ne (by omega), am_upd_ne (by omega)]
        · obtain ⟨f2, rfl⟩ : ∃ f2, f = f2 + 1 := ⟨f - 1, by omega⟩
          have ew : l_add (l_mul (A 20 2) 32) (o_add (o_sub b 97) 1) = A 20 2 * 32 + (b - 96) := by
            rw [l_mul_eq (by omega) (by omega), o_sub_eq (by omega) (by omega), o_add_eq (by omega) (by omega), l_add_eq (by omega) (by omega)]; omega
          rw [f_X5_scanWord_15, if_neg (by omega), e1, if_pos (by omega), tnc, b1, x_isLetter, bind_s, if_pos g]
          dsimp only
          rw [if_neg (by decide), if_neg (by omega)]
          simp only [e1]
          rw [if_pos (by omega), tnc, b1, ew, zlet_eq, zlet_eq, zlet_eq, am_upd_ne (by omega), e4, o_succ (by omega), am_upd_ne (by omega), am_upd_ne (by omega), e1, o_succ (by omega), show p - p0 + 1 = p + 1 - p0 by omega]
          exact h12 f2 (by omega)
        · obtain ⟨f2, rfl⟩ : ∃ f2, f = f2 + 1 := ⟨f - 1, by omega⟩
          have ew : l_sub (l_add (l_mul (B 0 19) 32) b) 96 = B 0 19 * 32 + (b - 96) := by
            rw [l_mul_eq (by omega) (by omega), l_add_eq (by omega) (by omega), l_sub_eq (by omega) (by omega)]; omega
          rw [f_X11_advance_109, e2, hlook, bind_s]
          dsimp only
          rw [m_isLetter, bind_s, if_pos g]
          dsimp only
          rw [if_neg (by decide)]
          simp only [e2, e3, hsub]
          rw [if_neg (by omega), hlook, bind_s]
          dsimp only
          rw [ew, zlet_eq, zlet_eq, am_upd_ne (by omega), e2, o_succ (by omega)]
          exact h13 f2 (by omega)
    · have gb : ¬ (97 ≤ (if b < 0 then b + 256 else b) ∧ (if b < 0 then b + 256 else b) ≤ 122) := by
        by_cases g2 : b < 0
        · rw [if_pos g2]; omega
        · rw [if_neg g2]; exact g
      refine ⟨p, A, am_upd B 0 18 ((p - p0 : Nat) : Int), Nat.le_refl _, by omega, CF_refl A, MF_upd _ (by omega) (MF_refl B), e1, ?_, e4, am_upd_self _ _ _ _, ?_, fun _ _ _ _ => rfl, fun i _ h _ => am_upd_ne (by omega), fun _ h1 h2 => by rw [b1] at h1 h2; exact absurd ⟨h1, h2⟩ g, fun f hf => ?_, fun f hf => ?_⟩
      · rw [am_upd_ne (by omega)]; exact e2
      · rw [am_upd_ne (by omega)]; exact hW
      · obtain ⟨f2, rfl⟩ : ∃ f2, f = f2 + 1 := ⟨f - 1, by omega⟩
        rw [f_X5_scanWord_15, if_neg (by omega), e1, if_pos (by omega), tnc, b1, x_isLetter, bind_s, if_neg g]
        dsimp only
        rw [if_pos rfl]
      · obtain ⟨f2, rfl⟩ : ∃ f2, f = f2 + 1 := ⟨f - 1, by omega⟩
        rw [f_X11_advance_109, e2, hlook, bind_s]
        dsimp only
        rw [m_isLetter, bind_s, if_neg gb]
        dsimp only
        rw [if_pos rfl, zlet_eq, e2, e3, hsub]
