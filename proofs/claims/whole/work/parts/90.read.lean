/-! TEXTS: what both sides do with a TOKEN -/
def FO (A B : AM) : Prop := A 20 5 = 0 ∧ A 20 6 = -1 ∧ B 0 12 = 0
def FB (A B : AM) : Prop := 0 < B 0 12 ∧ A 20 5 = B 0 12 ∧ A 20 6 = B 0 13
/-- what a reader of the class, of the model may touch -/
def XF (A A' : AM) : Prop := (∀ x, x ≠ 20 → x < 34 ∨ 44 < x → x < 53 ∨ 60 < x → A' x = A x) ∧ A' 20 7 = A 20 7 ∧ A' 20 10 = A 20 10
def YF (B B' : AM) : Prop := (∀ x, x ≠ 0 → x ≠ 5 → x ≠ 8 → B' x = B x) ∧ (∀ j, j < 12 ∨ 19 < j → j ≠ 25 → j ≠ 26 → B' 0 j = B 0 j) ∧ (∀ k, k < 1420 → B' 5 k = B 5 k) ∧ ∀ i, i < 96 → B' 8 i = B 8 i
theorem XF_refl (A : AM) : XF A A := ⟨fun _ _ _ _ => rfl, rfl, rfl⟩
theorem YF_refl (A : AM) : YF A A := ⟨fun _ _ _ _ => rfl, fun _ _ _ _ => rfl, fun _ _ => rfl, fun _ _ => rfl⟩
theorem XF_trans {A A2 A3 : AM} (h1 : XF A A2) (h2 : XF A2 A3) : XF A A3 := ⟨fun x a b d => (h2.1 x a b d).trans (h1.1 x a b d), h2.2.1.trans h1.2.1, h2.2.2.trans h1.2.2⟩
theorem YF_trans {A A2 A3 : AM} (h1 : YF A A2) (h2 : YF A2 A3) : YF A A3 := ⟨fun x a b d => (h2.1 x a b d).trans (h1.1 x a b d), fun j a b d => (h2.2.1 j a b d).trans (h1.2.1 j a b d), fun k a => (h2.2.2.1 k a).trans (h1.2.2.1 k a), fun k a => (h2.2.2.2 k a).trans (h1.2.2.2 k a)⟩
theorem CF_XF {A A' : AM} (h : CF A A') : XF A A' := ⟨fun x a _ _ => h.1 x a, h.2 7 (by decide), h.2 10 (by decide)⟩
theorem MF_YF {B B' : AM} (h : MF B B') : YF B B' := ⟨fun x a _ _ => h.1 x a, fun j a _ _ => h.2 j (by omega), fun k _ => by rw [h.1 5 (by decide)], fun k _ => by rw [h.1 8 (by decide)]⟩
theorem FO_F {A A' B B' : AM} (h : FO A B) (h1 : CF A A') (h2 : MF B B') : FO A' B' := ⟨by rw [h1.2 5 (by decide)]; exact h.1, by rw [h1.2 6 (by decide)]; exact h.2.1, by rw [h2.2 12 (by decide)]; exact h.2.2⟩
theorem Adv_trans {A A2 A3 : AM} (h1 : Adv A A2) (h2 : Adv A2 A3) : Adv A A3 := ⟨by have := h1.1; have := h2.1; omega, by have := h1.1; rcases h2.2 with h | h; exact Or.inl h; exact Or.inr (by omega)⟩
theorem TK_adv {L : Nat} {A B : AM} (h : TK L A B) : ∃ A' B', f_X5_advance A = some A' ∧ f_X11_advance B = some B' ∧ CF A A' ∧ MF B B' ∧ TK L A' B' ∧ Adv A A' := adv_both h.1 h.2.1.1 h.2.1.2.1 h.2.1.2.2
/-- a TOKEN is looked at by the tape alone -/
theorem TK_cong {L : Nat} {A A' B B' : AM} (h : TK L A B) (h20 : A' 20 = A 20) (h21 : A' 21 = A 21) (h22 : A' 22 = A 22) (h4 : B' 4 = B 4) (h0 : ∀ j, j = 9 ∨ (14 ≤ j ∧ j ≤ 19) → B' 0 j = B 0 j) : TK L A' B' := by
  obtain ⟨⟨t1, t2, t3, t4, t5⟩, h⟩ := h
  refine ⟨⟨t1, by rw [h20]; exact t2, by rw [h0 9 (by omega)]; exact t3, by rw [h21, h4]; exact t4, ?_⟩, ?_⟩
  · unfold Rk at t5 ⊢
    rw [h22]; exact t5
  · rw [h20, h0 16 (by omega), h0 14 (by omega), h0 15 (by omega), h0 18 (by omega), h0 19 (by omega), h0 17 (by omega)]
    exact h
theorem x_refuse5 {L : Nat} {A B : AM} (k : Int) (h : TK L A B) : f_X5_refuse k A = some (0, am_upd (am_upd A 20 5 (if A 20 0 = 4 then 1 else k)) 20 6 (A 20 1)) := by
  have h14 : ∀ s : Int, f_X5_refuse_14 s A = some (0, am_upd (am_upd A 20 5 s) 20 6 (A 20 1)) := by
    intro s
    unfold f_X5_refuse_14
    rw [zlet_eq, am_upd_ne (show ¬ (20 = 20 ∧ 0 = 5) by omega)]
    by_cases g : A 20 0 = 0
    · rw [if_neg (fun h => h g), zlet_eq, am_upd_ne (show ¬ (20 = 20 ∧ 10 = 5) by omega), h.1.2.1, h.2.2.2.2.1 g]
    · rw [if_pos g, zlet_eq, am_upd_ne (show ¬ (20 = 20 ∧ 1 = 5) by omega)]
  unfold f_X5_refuse
  by_cases g : A 20 0 = 4
  · rw [if_neg (fun h => h g), if_pos g, h14]
  · rw [if_pos g, if_neg g, h14]
theorem m_fail {B : AM} (k p : Int) (h : B 0 12 = 0) : f_X11_fail k p B = some (am_upd (am_upd B 0 12 k) 0 13 p) := by
  unfold f_X11_fail
  rw [if_pos (by omega), zlet_eq, zlet_eq]
theorem m_amiss {B : AM} (h : B 0 12 = 0) : f_X11_amiss B = some (am_upd (am_upd B 0 12 (if B 0 14 = 4 then 1 else 2)) 0 13 (B 0 15)) := by
  unfold f_X11_amiss f_X11_amiss_14
  by_cases g : B 0 14 = 4
  · rw [if_neg (fun h => h g), if_pos g, m_fail _ _ h, bind_s]
  · rw [if_pos g, if_neg g, m_fail _ _ h, bind_s]
theorem XF_56 (A : AM) (u v : Int) : XF A (am_upd (am_upd A 20 5 u) 20 6 v) := ⟨fun x a _ _ => by rw [am_upd_cell a, am_upd_cell a], by rw [am_upd_ne (by omega), am_upd_ne (by omega)], by rw [am_upd_ne (by omega), am_upd_ne (by omega)]⟩
theorem YF_f {B : AM} {j : Nat} (v : Int) (hj : (12 ≤ j ∧ j ≤ 19) ∨ j = 25 ∨ j = 26) : YF B (am_upd B 0 j v) := ⟨fun x a _ _ => by rw [am_upd_cell a], fun i h1 h2 h3 => by rw [am_upd_ne (by omega)], fun k _ => by rw [am_upd_cell (by decide)], fun k _ => by rw [am_upd_cell (by decide)]⟩
theorem YF_c {B : AM} {k : Nat} (v : Int) (hk : 1420 ≤ k) : YF B (am_upd B 5 k v) := ⟨fun x _ a _ => by rw [am_upd_cell a], fun i _ _ _ => by rw [am_upd_cell (by decide)], fun i h => by rw [am_upd_ne (by omega)], fun i _ => by rw [am_upd_cell (by decide)]⟩
/-- both find the same FAULT -/
theorem bad_at {L : Nat} {A B : AM} (k : Int) (hk : 0 < k) (h : TK L A B) (hF : FO A B) (h4 : ¬ A 20 0 = 4) : ∃ A' B', f_X5_refuse k A = some (0, A') ∧ f_X11_fail k (B 0 15) B = some B' ∧ FB A' B' ∧ XF A A' ∧ YF B B' ∧ B' 5 = B 5 := by
  refine ⟨_, _, x_refuse5 k h, m_fail k _ hF.2.2, ⟨?_, ?_, ?_⟩, XF_56 _ _ _, YF_trans (YF_f _ (by omega)) (YF_f _ (by omega)), ?_⟩
  · rw [am_upd_ne (by omega), am_upd_self]; exact hk
  · rw [am_upd_ne (by omega), am_upd_self, am_upd_ne (by omega), am_upd_self, if_neg h4]
  · rw [am_upd_self, am_upd_self]; exact h.2.2.2.1.1
  · rw [am_upd_cell (by decide), am_upd_cell (by decide)]
theorem bad_2 {L : Nat} {A B : AM} (h : TK L A B) (hF : FO A B) : ∃ A' B', f_X5_refuse 2 A = some (0, A') ∧ f_X11_amiss B = some B' ∧ FB A' B' ∧ XF A A' ∧ YF B B' ∧ B' 5 = B 5 := by
  have e0 := h.2.2.1.1
  refine ⟨_, _, x_refuse5 2 h, m_amiss hF.2.2, ⟨?_, ?_, ?_⟩, XF_56 _ _ _, YF_trans (YF_f _ (by omega)) (YF_f _ (by omega)), ?_⟩
  · rw [am_upd_ne (by omega), am_upd_self]
    split <;> decide
  · rw [am_upd_ne (by omega), am_upd_self, am_upd_ne (by omega), am_upd_self, e0]
  · rw [am_upd_self, am_upd_self]; exact h.2.2.2.1.1
  · rw [am_upd_cell (by decide), am_upd_cell (by decide)]
/-! once there is a FAULT, the model does nothing -/
theorem m_must_bad {B : AM} (v : Int) (h : 0 < B 0 12) : f_X11_must v B = some B := by
  unfold f_X11_must
  rw [if_neg (by omega)]
theorem m_count_bad {B : AM} (a b : Int) (h : 0 < B 0 12) : f_X11_count a b B = some (0, B) := by
  unfold f_X11_count f_X11_count_19 f_X11_count_50
  rw [if_pos (by omega), if_pos (by omega), if_neg (by omega)]
theorem m_told_bad {B : AM} (a b : Int) (h : 0 < B 0 12) : f_X11_told a b B = some (0, B) := by
  unfold f_X11_told f_X11_told_18
  rw [if_pos (by omega), if_neg (by omega)]
theorem m_readTold_bad {B : AM} (a b : Int) (h : 0 < B 0 12) : f_X11_readTold a b B = some (0, B) := by
  unfold f_X11_readTold
  rw [m_told_bad _ _ h, bind_s, m_must_bad _ h, bind_s]
theorem m_perhaps_bad {B : AM} (a : Int) (h : 0 < B 0 12) : f_X11_perhaps a B = some (0, B) := by
  unfold f_X11_perhaps
  rw [if_pos h]
theorem m_behind_bad {B : AM} (a b d : Int) (h : 0 < B 0 12) : f_X11_behindWord a b d B = some (0, B) := by
  unfold f_X11_behindWord
  rw [m_must_bad _ h, bind_s, m_count_bad _ _ h, bind_s]
theorem m_fail_bad {B : AM} (a b : Int) (h : 0 < B 0 12) : f_X11_fail a b B = some B := by
  unfold f_X11_fail
  rw [if_neg (by omega)]
theorem m_must_1 {B : AM} (h : B 0 12 = 0) : f_X11_must 1 B = f_X11_advance B := by
  unfold f_X11_must
  rw [if_pos (by omega), if_neg (by decide)]
  cases f_X11_advance B <;> rfl
theorem m_must_0 {B : AM} (h : B 0 12 = 0) : f_X11_must 0 B = f_X11_amiss B := by
  unfold f_X11_must
  rw [if_pos (by omega), if_pos rfl]
  cases f_X11_amiss B <;> rfl
/-- a TOKEN that must be there: class x, model m -/
def MB (L : Nat) (A B : AM) (x : Option (Int × AM)) (m : Option AM) : Prop :=
  (∃ A' B', x = some (1, A') ∧ m = some B' ∧ TK L A' B' ∧ FO A' B' ∧ CF A A' ∧ MF B B' ∧ Adv A A') ∨ (∃ A' B', x = some (0, A') ∧ m = some B' ∧ FB A' B' ∧ XF A A' ∧ YF B B' ∧ B' 5 = B 5)
theorem mb_kw {L : Nat} {A B : AM} (K : Int) (h : TK L A B) (hF : FO A B) : MB L A B (f_X5_takeKeyword K A) (f_X11_must (if A 20 3 = K then 1 else 0) B) := by
  unfold f_X5_takeKeyword
  by_cases g : A 20 3 = K
  · rw [if_pos g, if_pos g, m_must_1 hF.2.2]
    obtain ⟨A', B', e1, e2, c1, c2, c3, c4⟩ := TK_adv h
    rw [e1, bind_s]
    exact Or.inl ⟨A', B', rfl, e2, c3, FO_F hF c1 c2, c1, c2, c4⟩
  · rw [if_neg g, if_neg g, m_must_0 hF.2.2]
    obtain ⟨A', B', e1, e2, c⟩ := bad_2 h hF
    rw [e1, bind_s]
    dsimp only
    rw [if_pos (Or.inl rfl)]
    exact Or.inr ⟨A', B', rfl, e2, c⟩
theorem x_isSign {A : AM} (v : Int) : f_X5_isSign v A = some (if A 20 0 = 3 ∧ A 20 4 = v then 1 else 0, A) := by
  unfold f_X5_isSign
  by_cases g : A 20 0 = 3
  · rw [if_neg (fun h => h g)]
    by_cases g2 : A 20 4 = v
    · rw [if_neg (fun h => h g2), if_pos ⟨g, g2⟩]
    · rw [if_pos g2, if_neg (fun h => g2 h.2)]
  · rw [if_pos g, if_neg (fun h => g h.1)]
theorem m_isSign {L : Nat} {A B : AM} (v : Int) (h : TK L A B) : f_X11_isSign v B = some (if A 20 0 = 3 ∧ A 20 4 = v then 1 else 0, B) := by
  have e0 := h.2.2.1.1
  unfold f_X11_isSign
  by_cases g : A 20 0 = 3
  · have e4 := (h.2.2.2.2.2.2.2 (Or.inr g)).1
    rw [if_neg (by omega)]
    by_cases g2 : A 20 4 = v
    · rw [if_neg (by omega), if_pos ⟨g, g2⟩]
    · rw [if_pos (by omega), if_neg (fun h => g2 h.2)]
  · rw [if_pos (by omega), if_neg (fun h => g h.1)]
theorem mb_semi {L : Nat} {A B : AM} (h : TK L A B) (hF : FO A B) : MB L A B (f_X5_takeSemicolon A) ((f_X11_isSign 59 B).bind fun x2 => f_X11_must x2.1 x2.2) := by
  unfold f_X5_takeSemicolon
  rw [x_isSign, bind_s, m_isSign 59 h, bind_s]
  dsimp only
  by_cases g : A 20 0 = 3 ∧ A 20 4 = 59
  · rw [if_pos g, if_pos (by decide), m_must_1 hF.2.2]
    obtain ⟨A', B', e1, e2, c1, c2, c3, c4⟩ := TK_adv h
    rw [e1, bind_s]
    exact Or.inl ⟨A', B', rfl, e2, c3, FO_F hF c1 c2, c1, c2, c4⟩
  · rw [if_neg g, if_neg (by decide), m_must_0 hF.2.2]
    obtain ⟨A', B', e1, e2, c⟩ := bad_2 h hF
    rw [e1, bind_s]
    dsimp only
    rw [if_pos (Or.inl rfl)]
    exact Or.inr ⟨A', B', rfl, e2, c⟩
/-- a NUMBER that must be there -/
def NB (L : Nat) (lo hi : Int) (A B : AM) (x m : Option (Int × AM)) : Prop :=
  (∃ v A' B', lo ≤ v ∧ v ≤ hi ∧ x = some (v, A') ∧ m = some (v, B') ∧ TK L A' B' ∧ FO A' B' ∧ CF A A' ∧ MF B B' ∧ Adv A A') ∨ (∃ A' B', x = some (-1, A') ∧ m = some (0, B') ∧ FB A' B' ∧ XF A A' ∧ YF B B' ∧ B' 5 = B 5)
theorem nb_count {L : Nat} {A B : AM} (lo hi : Int) (h : TK L A B) (hF : FO A B) : NB L lo hi A B (f_X5_takeNumber lo hi A) (f_X11_count lo hi B) := by
  have e0 := h.2.2.1.1
  unfold f_X5_takeNumber f_X11_count
  rw [if_neg (show ¬ ¬ B 0 12 = 0 from fun h => h hF.2.2)]
  by_cases g : A 20 0 = 2
  · obtain ⟨e4, e5, e6⟩ := h.2.2.2.2.2.2.2 (Or.inl g)
    rw [if_pos g, if_pos (show B 0 14 = 2 by omega)]
    unfold f_X11_count_19
    rw [if_neg (show ¬ ¬ B 0 12 = 0 from fun h => h hF.2.2)]
    have bad : ∃ A' B', f_X5_takeNumber_32 A = some (-1, A') ∧ ((f_X11_fail 4 (B 0 15) B).bind fun x2 => f_X11_count_50 x2) = some (0, B') ∧ FB A' B' ∧ XF A A' ∧ YF B B' ∧ B' 5 = B 5 := by
      obtain ⟨A', B', e1, e2, c1, c2⟩ := bad_at 4 (by decide) h hF (by omega)
      refine ⟨A', B', ?_, ?_, c1, c2⟩
      · unfold f_X5_takeNumber_32; rw [e1, bind_s]
      · rw [e2, bind_s]; unfold f_X11_count_50; rw [if_neg (by have := c1.1; omega)]
    by_cases g2 : lo ≤ B 0 17 ∧ B 0 17 ≤ hi
    · rw [if_neg (by omega), if_pos (by omega), isin_t g2, bind_s]
      dsimp only
      rw [if_pos (by decide)]
      unfold f_X11_count_50
      rw [if_pos (by have := hF.2.2; omega)]
      obtain ⟨A', B', e1, e2, c1, c2, c3, c4⟩ := TK_adv h
      rw [e1, e2, bind_s, bind_s]
      exact Or.inl ⟨A 20 4, A', B', by omega, by omega, rfl, by rw [e4], c3, FO_F hF c1 c2, c1, c2, c4⟩
    · rw [isin_f g2, bind_s]
      dsimp only
      rw [if_neg (show ¬ ¬ (0 : Int) = 0 by decide)]
      obtain ⟨A', B', e1, e2, c⟩ := bad
      refine Or.inr ⟨A', B', ?_, e2, c⟩
      by_cases g3 : A 20 4 < lo
      · rw [if_pos g3]; exact e1
      · rw [if_neg g3, if_neg (by omega)]; exact e1
  · rw [if_neg g, if_neg (show ¬ B 0 14 = 2 by omega)]
    obtain ⟨A', B', e1, e2, c1, c2⟩ := bad_2 h hF
    rw [e1, e2, bind_s, bind_s]
    refine Or.inr ⟨A', B', rfl, ?_, c1, c2⟩
    unfold f_X11_count_19 f_X11_count_50
    have := c1.1
    rw [if_pos (by omega), if_neg (by omega)]
