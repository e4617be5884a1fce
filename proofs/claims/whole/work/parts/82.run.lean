/-! LIVE: both sides, turn by turn -/
def LM (B0 B : AM) : Prop := (∀ x, x ≠ 0 → x ≠ 5 → x ≠ 9 → x ≠ 10 → B x = B0 x) ∧ ∀ j, j < 35 ∨ 42 < j → B 0 j = B0 0 j
/-- the class's A and the model's B on the way through YEARS c0; A0, B0: where it began -/
def LR (c0 : Nat → Int) (q : Nat) (A0 B0 A B : AM) : Prop :=
  (Ic (B 5) ∧ B 5 5 ≤ 9999 ∧ ∀ j, j ≠ 5 → j < 6 ∨ 83 ≤ j → B 5 j = c0 j) ∧ Rh (B 5) q A ∧
  (A 69 4 = B 0 36 ∧ 0 ≤ A 69 4 ∧ A 69 4 < 65536) ∧ (A 69 0 = B 0 37 ∧ 0 ≤ A 69 0 ∧ A 69 0 ≤ 300) ∧
  (∀ i, i < 4 → A 70 i = B 0 (38 + i) ∧ 0 ≤ A 70 i ∧ A 70 i ≤ 99 * A 69 0) ∧ A 70 4 = B 0 42 ∧ LX q A0 A ∧ LM B0 B
theorem LX_refl (q : Nat) (M : AM) : LX q M M := fun _ _ _ _ _ _ _ _ _ _ _ => rfl
theorem LX_trans {q : Nat} {M N P : AM} (h1 : LX q M N) (h2 : LX q N P) : LX q M P :=
  fun x a1 a2 a3 a4 a5 a6 a7 a8 a9 a10 => (h2 x a1 a2 a3 a4 a5 a6 a7 a8 a9 a10).trans (h1 x a1 a2 a3 a4 a5 a6 a7 a8 a9 a10)
theorem LX_years {q : Nat} {A0 A : AM} (hq : q = 23 ∨ q = 34) (h : LX q A0 A) {i : Nat} (h1 : 45 ≤ i) (h2 : i ≤ 68) : A i = A0 i :=
  h i (by omega) (by omega) (by omega) (by omega) (by omega) (by omega) (by omega) (by omega) (by omega) (by omega)
theorem LX_upd {q : Nat} {A0 A : AM} {x : Nat} (j : Nat) (v : Int) (hx : x = 69 ∨ x = 70 ∨ x = 71) (h : LX q A0 A) : LX q A0 (am_upd A x j v) :=
  fun y a1 a2 a3 a4 a5 a6 a7 a8 a9 a10 => by rw [am_upd_cell (by omega)]; exact h y a1 a2 a3 a4 a5 a6 a7 a8 a9 a10
theorem LM_refl (M : AM) : LM M M := ⟨fun _ _ _ _ _ => rfl, fun _ _ => rfl⟩
theorem LM_upd {B0 B : AM} {j : Nat} (v : Int) (hj : 35 ≤ j ∧ j ≤ 42) (h : LM B0 B) : LM B0 (am_upd B 0 j v) :=
  ⟨fun x h0 h5 h9 h10 => by rw [am_upd_cell h0]; exact h.1 x h0 h5 h9 h10, fun i hi => by rw [am_upd_ne (by omega)]; exact h.2 i hi⟩
theorem LR_tick {c0 : Nat → Int} {q : Nat} {A0 B0 A B : AM} (hq : q = 23 ∨ q = 34) (h : LR c0 q A0 B0 A B) (h3 : A 69 0 < 300) : LR c0 q A0 B0 (am_upd A 69 0 (A 69 0 + 1)) (am_upd B 0 37 (B 0 37 + 1)) := by
  obtain ⟨⟨a1, a2, a3⟩, b, ⟨c1, c2, c3⟩, ⟨d1, d2, d3⟩, e, f, g, i⟩ := h
  have e5 : am_upd B 0 37 (B 0 37 + 1) 5 = B 5 := am_upd_cell (by decide)
  refine ⟨⟨by rw [e5]; exact a1, by rw [e5]; exact a2, fun j h1 h2 => by rw [e5]; exact a3 j h1 h2⟩, ?_, ⟨?_, ?_, ?_⟩, ⟨?_, ?_, ?_⟩, fun j hj => ?_, ?_, LX_upd _ _ (Or.inl rfl) g, LM_upd _ (by omega) i⟩
  · rw [e5]; exact Rh_cong (fun i hi => am_upd_cell (by omega)) b
  · rw [am_upd_ne (by omega), am_upd_ne (by omega)]; exact c1
  · rw [am_upd_ne (by omega)]; exact c2
  · rw [am_upd_ne (by omega)]; exact c3
  · rw [am_upd_self, am_upd_self, d1]
  · rw [am_upd_self]; omega
  · rw [am_upd_self]; omega
  · obtain ⟨x1, x2, x3⟩ := e j hj
    rw [am_upd_cell (by decide), am_upd_ne (by omega), am_upd_self]
    exact ⟨x1, x2, by omega⟩
  · rw [am_upd_cell (by decide), am_upd_ne (by omega)]; exact f
theorem LR_over {c0 : Nat → Int} {q : Nat} {A0 B0 A B : AM} (h : LR c0 q A0 B0 A B) (v : Int) : LR c0 q A0 B0 A (am_upd B 0 35 v) := by
  obtain ⟨⟨a1, a2, a3⟩, b, c, d, e, f, g, i⟩ := h
  have e5 : am_upd B 0 35 v 5 = B 5 := am_upd_cell (by decide)
  refine ⟨⟨by rw [e5]; exact a1, by rw [e5]; exact a2, fun j h1 h2 => by rw [e5]; exact a3 j h1 h2⟩, by rw [e5]; exact b, ?_, ?_, fun j hj => ?_, ?_, g, LM_upd _ (by omega) i⟩
  · rw [am_upd_ne (by omega)]; exact c
  · rw [am_upd_ne (by omega)]; exact d
  · rw [am_upd_ne (by omega)]; exact e j hj
  · rw [am_upd_ne (by omega)]; exact f
theorem LR_full {c0 : Nat → Int} {q : Nat} {A0 B0 A B : AM} (hq : q = 23 ∨ q = 34) (h : LR c0 q A0 B0 A B) : LR c0 q A0 B0 (am_upd A 70 4 1) (am_upd B 0 42 1) := by
  obtain ⟨⟨a1, a2, a3⟩, b, c, d, e, f, g, i⟩ := h
  have e5 : am_upd B 0 42 1 5 = B 5 := am_upd_cell (by decide)
  have e69 : am_upd A 70 4 1 69 = A 69 := am_upd_cell (by decide)
  refine ⟨⟨by rw [e5]; exact a1, by rw [e5]; exact a2, fun j h1 h2 => by rw [e5]; exact a3 j h1 h2⟩, ?_, ?_, ?_, fun j hj => ?_, ?_, LX_upd _ _ (Or.inr (Or.inl rfl)) g, LM_upd _ (by omega) i⟩
  · rw [e5]; exact Rh_cong (fun i hi => am_upd_cell (by omega)) b
  · rw [e69, am_upd_ne (by omega)]; exact c
  · rw [e69, am_upd_ne (by omega)]; exact d
  · rw [e69, am_upd_ne (by omega), am_upd_ne (by omega)]; exact e j hj
  · rw [am_upd_self, am_upd_self]
theorem LR_71 {c0 : Nat → Int} {q : Nat} {A0 B0 A B : AM} (hq : q = 23 ∨ q = 34) (j : Nat) (v : Int) (h : LR c0 q A0 B0 A B) : LR c0 q A0 B0 (am_upd A 71 j v) B := by
  obtain ⟨a, b, c, d, e, f, g, i⟩ := h
  have e69 : am_upd A 71 j v 69 = A 69 := am_upd_cell (by decide)
  have e70 : am_upd A 71 j v 70 = A 70 := am_upd_cell (by decide)
  refine ⟨a, Rh_cong (fun i hi => am_upd_cell (by omega)) b, by rw [e69]; exact c, by rw [e69]; exact d, fun j hj => by rw [e69, e70]; exact e j hj, by rw [e70]; exact f, LX_upd _ _ (Or.inr (Or.inr rfl)) g, i⟩
theorem LR_step {c0 : Nat → Int} {q : Nat} {A0 B0 A B : AM} (hq : q = 23 ∨ q = 34) (h : LR c0 q A0 B0 A B) {s r : Nat} (hy : ystep c0 45 A0 s r) : ystep (B 5) 45 A s r := by
  obtain ⟨⟨a1, a2, a3⟩, _, _, _, _, _, g, _⟩ := h
  refine ystep_c (c := c0) (by rw [a3 1 (by decide) (by decide)]; omega) (a3 2 (by decide) (by decide)) (fun k h1 h2 => a3 k (by omega) (by omega)) ?_
  exact ystep_cong (fun i hi => LX_years hq g (by omega) (by omega)) hy
/-! single turns of the class -/
theorem lead_turn {q r t n : Nat} {A N : AM} {R : Nat} {r' : Int} (ht : t < 1000000) (hR : A 45 2 = (R : Int)) (hr : r < R) (h60 : R ≤ 60) (hk : ¬ A 46 r = 21) (h3 : A 69 0 < 300) (h0 : 0 ≤ A 69 0) (e : f_X3_doStep q (r : Int) (am_upd A 69 0 (A 69 0 + 1)) = some (r', N)) :
    f_X3_lead_24 (n + 1) q (r : Int) (t : Int) A = f_X3_lead_24 n q r' ((t + 1 : Nat) : Int) N := by
  simp only [f_X3_lead_24]
  rw [if_neg (by omega), hR, if_neg (by omega), if_pos (by omega), tnc, if_pos hk, if_pos h3, zlet_eq, o_add_eq (x := A 69 0) (by omega) (by omega), e, bind_s, o_succ (by omega)]
theorem lead_end {q r t n : Nat} {A N : AM} {R : Nat} {r' : Int} (ht : t < 1000000) (hR : A 45 2 = (R : Int)) (hr : r < R) (h60 : R ≤ 60) (hk : A 46 r = 21) (e : f_X3_passEnd (r : Int) A = some (r', N)) :
    f_X3_lead_24 (n + 1) q (r : Int) (t : Int) A = f_X3_lead_24 n q r' ((t + 1 : Nat) : Int) N := by
  simp only [f_X3_lead_24]
  rw [if_neg (by omega), hR, if_neg (by omega), if_pos (by omega), tnc, if_neg (fun h => h hk), e, bind_s, o_succ (by omega)]
theorem lead_full {q r t n : Nat} {A : AM} {R : Nat} (ht : t < 1000000) (hR : A 45 2 = (R : Int)) (hr : r < R) (h60 : R ≤ 60) (hk : ¬ A 46 r = 21) (h3 : ¬ A 69 0 < 300) :
    f_X3_lead_24 (n + 1) q (r : Int) (t : Int) A = some (am_upd A 70 4 1) := by
  simp only [f_X3_lead_24]
  rw [if_neg (by omega), hR, if_neg (by omega), if_pos (by omega), tnc, if_pos hk, if_neg h3, zlet_eq]
  rfl
theorem lead_out {q t n : Nat} {A : AM} {a : Int} (h : A 45 2 ≤ a) : f_X3_lead_24 (n + 1) q a (t : Int) A = some A := by
  simp only [f_X3_lead_24]
  by_cases g : (1000000 : Int) ≤ (t : Int)
  · rw [if_pos g]
  · rw [if_neg g, if_pos h]
/-! what comes out of a stretch of YEARS, rows r .. r2, at most x turns beyond -/
def LG (c0 : Nat → Int) (q : Nat) (A0 B0 A : AM) (lo r r2 x : Nat) (B' : AM) : Prop :=
  ∃ (A' : AM) (k : Nat), LR c0 q A0 B0 A' B' ∧ (k : Int) ≤ 100 * (A' 69 0 - A 69 0) + (x : Int) ∧
   ((B' 0 35 = 0 ∧ (∀ j, j < lo ∨ r2 ≤ j → A' 71 j = A 71 j) ∧ ∀ n t : Nat, t + k < 1000000 → f_X3_lead_24 (n + k) q (r : Int) (t : Int) A = f_X3_lead_24 n q (r2 : Int) ((t + k : Nat) : Int) A') ∨
    (¬ B' 0 35 = 0 ∧ ∀ n t : Nat, t + k < 1000000 → f_X3_lead_24 (n + k + 1) q (r : Int) (t : Int) A = some A'))
theorem LG_pre {c0 : Nat → Int} {q : Nat} {A0 B0 A A2 B' : AM} {lo lo1 r r1 r2 k1 x y : Nat} (h1 : ∀ n t : Nat, t + k1 < 1000000 → f_X3_lead_24 (n + k1) q (r : Int) (t : Int) A = f_X3_lead_24 n q (r1 : Int) ((t + k1 : Nat) : Int) A2)
    (hk : (k1 : Int) + (y : Int) ≤ 100 * (A2 69 0 - A 69 0) + (x : Int)) (h71 : ∀ j, j < lo ∨ r2 ≤ j → A2 71 j = A 71 j) (hr : lo ≤ lo1) (h : LG c0 q A0 B0 A2 lo1 r1 r2 y B') : LG c0 q A0 B0 A lo r r2 x B' := by
  obtain ⟨A', k, g1, g2, g3⟩ := h
  refine ⟨A', k1 + k, g1, by omega, ?_⟩
  rcases g3 with ⟨g3, g4, g5⟩ | ⟨g3, g4⟩
  · refine Or.inl ⟨g3, fun j hj => (g4 j (by omega)).trans (h71 j hj), fun n t ht => ?_⟩
    rw [show n + (k1 + k) = (n + k) + k1 by omega, h1 (n + k) t (by omega), g5 n (t + k1) (by omega), show t + k1 + k = t + (k1 + k) by omega]
  · refine Or.inr ⟨g3, fun n t ht => ?_⟩
    rw [show n + (k1 + k) + 1 = (n + k + 1) + k1 by omega, h1 (n + k + 1) t (by omega), g4 n (t + k1) (by omega)]
theorem LG_halt {c0 : Nat → Int} {q : Nat} {A0 B0 A B' : AM} {lo lo2 r r2 r3 x y : Nat} (hx : x ≤ y) (h : LG c0 q A0 B0 A lo r r2 x B') (ho : ¬ B' 0 35 = 0) : LG c0 q A0 B0 A lo2 r r3 y B' := by
  obtain ⟨A', k, g1, g2, g3⟩ := h
  refine ⟨A', k, g1, by omega, ?_⟩
  rcases g3 with ⟨g3, _⟩ | g3
  · exact absurd g3 ho
  · exact Or.inr g3
theorem LG_nil {c0 : Nat → Int} {q : Nat} {A0 B0 A B : AM} {lo r : Nat} (h : LR c0 q A0 B0 A B) (h0 : B 0 35 = 0) : LG c0 q A0 B0 A lo r r 0 B :=
  ⟨A, 0, h, by omega, Or.inl ⟨h0, fun _ _ => rfl, fun _ _ _ => rfl⟩⟩
/-! the closing rows -/
theorem pass_when {A : AM} {r m : Nat} (hr : r < 60) (hm : m < 60) (e1 : A 51 m = (r : Int)) (e2 : ¬ A 46 r = 20) : f_X3_passEnd (m : Int) A = some (((m + 1 : Nat) : Int), A) := by
  unfold f_X3_passEnd
  rw [tnc, e1, tnc, if_pos (by omega), if_pos (by omega), if_pos e2, o_succ (by omega)]
theorem pass_last {A : AM} {r m : Nat} (hr : r < 60) (hm : m < 60) (e1 : A 51 m = (r : Int)) (e2 : A 46 r = 20) (e3 : A 71 r ≤ 1) : f_X3_passEnd (m : Int) A = some (((m + 1 : Nat) : Int), A) := by
  unfold f_X3_passEnd
  rw [tnc, e1, tnc, if_pos (by omega), if_pos (by omega), if_neg (fun h => h e2), if_pos e3, o_succ (by omega)]
theorem pass_again {A : AM} {r m j : Nat} (hr : r < 60) (hm : m < 60) (e1 : A 51 m = (r : Int)) (e2 : A 46 r = 20) (e3 : A 71 r = ((j + 2 : Nat) : Int)) (hj : j < 100) : f_X3_passEnd (m : Int) A = some (((r + 1 : Nat) : Int), am_upd A 71 r ((j + 1 : Nat) : Int)) := by
  unfold f_X3_passEnd
  rw [tnc, e1, tnc, if_pos (by omega), if_pos (by omega), if_neg (fun h => h e2), e3, if_neg (by omega), zlet_eq, o_sub_eq (by omega) (by omega), o_succ (by omega), show ((j + 2 : Nat) : Int) - 1 = ((j + 1 : Nat) : Int) by omega]
/-- a LOOP from its first row on, j turns still to go -/
theorem run_loop {c0 : Nat → Int} {q : Nat} {A0 B0 : AM} {g s t r m R v : Nat} (hq : q = 23 ∨ q = 34) (hR : A0 45 2 = (R : Int)) (h60 : R ≤ 60) (hrm : r < m) (hmR : m < R) (hs : s < 30)
    (e46 : A0 46 m = 21) (e51 : A0 51 m = (r : Int)) (e20 : A0 46 r = 20) (ev : c0 (86 + 9 * s) = (v : Int)) (hv : v ≤ 99) (et : c0 (93 + 9 * s) = (t : Int))
    (hb : ∀ A B, LR c0 q A0 B0 A B → B 0 35 = 0 → ∃ B', fc_X11_doAll g ((s + 1 : Nat) : Int) (t : Int) B = some B' ∧ LG c0 q A0 B0 A (r + 1) (r + 1) m 0 B') :
    ∀ (j i : Nat) (A B : AM), 1 ≤ j → i + j = v → LR c0 q A0 B0 A B → B 0 35 = 0 → A 71 r = (j : Int) →
      ∃ B', (∀ f, j < f → f_X11_doOne_119 (fc_X11_doAll g) f (s : Int) ((85 + 9 * s : Nat) : Int) (i : Int) B = some B') ∧ LG c0 q A0 B0 A r (r + 1) (m + 1) j B' := by
  have d : ∀ j : Nat, j < 1775 → (0 : Int) ≤ (j : Int) ∧ (j : Int) < 1775 := fun j hj => ⟨by omega, by omega⟩
  have a1 : o_add ((85 + 9 * s : Nat) : Int) 1 = ((86 + 9 * s : Nat) : Int) := by rw [o_add_eq (by omega) (by omega)]; omega
  have a8 : o_add ((85 + 9 * s : Nat) : Int) 8 = ((93 + 9 * s : Nat) : Int) := by rw [o_add_eq (by omega) (by omega)]; omega
  intro j
  induction j with
  | zero => intro i A B h; omega
  | succ j ih =>
    intro i A B _ hij hL h0 h71
    have b86 : ∀ B : AM, (∀ j, j ≠ 5 → j < 6 ∨ 83 ≤ j → B 5 j = c0 j) → B 5 (86 + 9 * s) = (v : Int) := fun B h => by rw [h _ (by omega) (by omega), ev]
    have b93 : B 5 (93 + 9 * s) = (t : Int) := by rw [hL.1.2.2 _ (by omega) (by omega), et]
    obtain ⟨B2, e2, hG⟩ := hb A B hL h0
    -- one turn of the model
    have one : ∀ f, f_X11_doOne_119 (fc_X11_doAll g) (f + 1) (s : Int) ((85 + 9 * s : Nat) : Int) (i : Int) B = f_X11_doOne_119 (fc_X11_doAll g) f (s : Int) ((85 + 9 * s : Nat) : Int) ((i + 1 : Nat) : Int) B2 := by
      intro f
      rw [f_X11_doOne_119]
      rw [a1, a8, if_pos (d _ (by omega)), tnc, tnc, b86 B hL.1.2.2, if_neg (by omega), if_neg (fun h => h h0), if_pos (d _ (by omega)), b93, o_succ (by omega), e2, bind_s, o_succ (by omega)]
    have hG2 := hG
    obtain ⟨A2, k, g1, g2, g3⟩ := hG
    have c2 := g1.1.2.2
    rcases g3 with ⟨g3, g4, g5⟩ | ⟨g3, g4⟩
    · have y45 : A2 45 = A0 45 := LX_years hq g1.2.2.2.2.2.2.1 (by omega) (by omega)
      have y46 : A2 46 = A0 46 := LX_years hq g1.2.2.2.2.2.2.1 (by omega) (by omega)
      have y51 : A2 51 = A0 51 := LX_years hq g1.2.2.2.2.2.2.1 (by omega) (by omega)
      have r71 : A2 71 r = ((j + 1 : Nat) : Int) := by rw [g4 r (by omega), h71]
      by_cases hj : j = 0
      · subst hj
        refine ⟨B2, fun f hf => ?_, ?_⟩
        · obtain ⟨f2, rfl⟩ : ∃ f2, f = f2 + 1 + 1 := ⟨f - 2, by omega⟩
          rw [one, f_X11_doOne_119, a1, if_pos (d _ (by omega)), tnc, b86 B2 c2, if_pos (by omega)]
        · refine LG_pre (k1 := k + 1) (A2 := A2) (r1 := m + 1) (y := 0) (fun n t ht => ?_) (by omega) (fun x hx => g4 x (by omega)) (Nat.le_refl r) (LG_nil g1 g3)
          rw [show n + (k + 1) = (n + 1) + k by omega, g5 (n + 1) t (by omega)]
          exact lead_end (by omega) (by rw [y45]; exact hR) hmR h60 (by rw [y46]; exact e46) (pass_last (r := r) (by omega) (by omega) (by rw [y51]; exact e51) (by rw [y46]; exact e20) (by omega))
      · obtain ⟨j2, rfl⟩ : ∃ j2, j = j2 + 1 := ⟨j - 1, by omega⟩
        obtain ⟨B3, e3, hG3⟩ := ih (i + 1) (am_upd A2 71 r ((j2 + 1 : Nat) : Int)) B2 (by omega) (by omega) (LR_71 hq _ _ g1) g3 (am_upd_self _ _ _ _)
        refine ⟨B3, fun f hf => ?_, ?_⟩
        · obtain ⟨f2, rfl⟩ : ∃ f2, f = f2 + 1 := ⟨f - 1, by omega⟩
          rw [one]
          exact e3 f2 (by omega)
        · have e69 : am_upd A2 71 r ((j2 + 1 : Nat) : Int) 69 = A2 69 := am_upd_cell (by decide)
          refine LG_pre (k1 := k + 1) (A2 := am_upd A2 71 r ((j2 + 1 : Nat) : Int)) (r1 := r + 1) (y := j2 + 1) (fun n t ht => ?_) (by rw [e69]; omega) (fun x hx => ?_) (Nat.le_refl r) hG3
          · rw [show n + (k + 1) = (n + 1) + k by omega, g5 (n + 1) t (by omega)]
            exact lead_end (by omega) (by rw [y45]; exact hR) hmR h60 (by rw [y46]; exact e46) (pass_again (by omega) (by omega) (by rw [y51]; exact e51) (by rw [y46]; exact e20) r71 (by omega))
          · rw [am_upd_ne (by omega)]; exact g4 x (by omega)
    · refine ⟨B2, fun f hf => ?_, LG_halt (by omega) hG2 g3⟩
      obtain ⟨f2, rfl⟩ : ∃ f2, f = f2 + 1 + 1 := ⟨f - 2, by omega⟩
      rw [one, f_X11_doOne_119, a1, if_pos (d _ (by omega)), tnc, b86 B2 c2]
      by_cases gv : (v : Int) ≤ ((i + 1 : Nat) : Int)
      · rw [if_pos gv]
      · rw [if_neg gv, if_pos g3]
