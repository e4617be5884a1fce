/-! YEARS: a STEP with its body -/
def PG (i : Nat) (A : AM) : Prop := (i : Int) ≤ A 20 11 ∧ (A 20 0 = 0 ∨ (i : Int) < A 20 11)
theorem PG_next {i : Nat} {A A' : AM} (h : PG i A) (hz : ¬ A 20 0 = 0) (hv : Adv A A') : PG (i + 1) A' := by
  have h1 := h.2.resolve_left hz
  have h2 := hv.1
  unfold PG
  rcases hv.2 with h3 | h3
  · exact ⟨by omega, Or.inl h3⟩
  · exact ⟨by omega, Or.inr (by omega)⟩
theorem ry_fin {L i n : Nat} {A : AM} (hz : A 20 0 = 0) : f_X9_readYears_12 (n + 1) (L : Int) (i : Int) A = f_X9_readYears_63 A := by
  rw [f_X9_readYears_12]
  by_cases g : (L : Int) ≤ (i : Int)
  · rw [if_pos g]
  · rw [if_neg g, if_pos hz]
theorem ry_step {L i n : Nat} {A B A' : AM} {v : Int} (t : TK L A B) (h : PG i A) (hz : ¬ A 20 0 = 0) (hk : ¬ A 20 3 = 21) (e : f_X9_readStep A = some (v, A')) : f_X9_readYears_12 (n + 1) (L : Int) (i : Int) A = if ¬ v = 0 then f_X9_readYears_12 n (L : Int) ((i + 1 : Nat) : Int) A' else some (0, A') := by
  have h1 := h.2.resolve_left hz
  have h2 := t.2.1.2.2
  have h3 := t.1.1
  rw [f_X9_readYears_12, if_neg (by omega), if_neg hz, if_pos hk, e, bind_s]
  unfold f_X9_readYears_48
  rw [o_succ (by omega)]
theorem ry_end {L i n : Nat} {A B A' : AM} {v : Int} (t : TK L A B) (h : PG i A) (hk : A 20 3 = 21) (e : f_X9_readEnd A = some (v, A')) : f_X9_readYears_12 (n + 1) (L : Int) (i : Int) A = if ¬ v = 0 then f_X9_readYears_12 n (L : Int) ((i + 1 : Nat) : Int) A' else some (0, A') := by
  have hz : ¬ A 20 0 = 0 := by have := kw_word t (by omega); omega
  have h1 := h.2.resolve_left hz
  have h2 := t.2.1.2.2
  have h3 := t.1.1
  rw [f_X9_readYears_12, if_neg (by omega), if_neg hz, if_neg (fun h => h hk), e, bind_s]
  unfold f_X9_readYears_48
  rw [o_succ (by omega)]
/-- no STEP begins so: the model -/
theorem m_nostep {L : Nat} {A B : AM} {D : Int} (h : Int → AM → Option AM) (t : TK L A B) (f : FO A B) (hk : ¬ 0 ≤ stepI (A 20 3)) : ∃ A' B', f_X5_refuse 2 A = some (0, A') ∧ fo_X11_readStep h D B = some B' ∧ FB A' B' ∧ XF A A' ∧ YF B B' := by
  obtain ⟨A', B', e1, e2, c1, c2, c3, _⟩ := bad_2 t f
  refine ⟨A', B', e1, ?_, c1, c2, c3⟩
  unfold fo_X11_readStep
  rw [m_stepWord t, bind_s]
  dsimp only
  rw [if_neg (show ¬ stepI (A 20 3) = 6 by omega), if_pos (show ¬ stepI (A 20 3) = 7 by omega)]
  unfold f_X11_readStep_22
  rw [if_neg hk, e2, bind_s, rs31_bad c1.1]
theorem ystep_loc5 {c c2 : Nat → Int} {q : Nat} {M N : AM} {s r : Nat} (h1 : c2 1 = c 1) (h2 : c2 2 = c 2) (hM : ∀ i, 1 ≤ i → i ≤ 5 → N (q + i) r = M (q + i) r) (hc : ∀ k, 85 + 9 * s ≤ k → k < 93 + 9 * s → c2 k = c k) (hR : ystep c q M s r) : ystep c2 q N s r := by
  unfold ystep at hR ⊢
  rw [h1, h2, hM 1 (by omega) (by omega), hM 2 (by omega) (by omega), hM 3 (by omega) (by omega), hM 4 (by omega) (by omega), hM 5 (by omega) (by omega), hc (85 + 9 * s) (by omega) (by omega), hc (86 + 9 * s) (by omega) (by omega), hc (90 + 9 * s) (by omega) (by omega), hc (91 + 9 * s) (by omega) (by omega), hc (92 + 9 * s) (by omega) (by omega)]
  exact hR
theorem yseq_nil (c : Nat → Int) (q : Nat) (M : AM) (d e r : Nat) : ∀ n, yseq c q M n d e e r r
  | 0 => ⟨rfl, rfl⟩
  | _ + 1 => Or.inl ⟨rfl, rfl⟩
theorem cN_cong {B B' : AM} {k : Nat} (hk : 83 ≤ k) (h : B' 5 (1420 + k) = B 5 (1420 + k)) : cN B' k = cN B k := by
  unfold cN
  rw [if_neg (by omega), if_neg (by omega), h]
theorem cN_lo {B B' : AM} {k : Nat} (hk : k < 83) (h : YF B B') : cN B' k = cN B k := by
  unfold cN
  rw [if_pos hk, if_pos hk, h.2.2.1 k (by omega)]
/-- a finished stretch stands while what is behind it is read -/
theorem yseq_FRM {n d s e r r2 D : Nat} {A B A' B' : AM} (hF : FRM e r2 D A B A' B') (h : yseq (cN B) 53 A n d s e r r2) : yseq (cN B') 53 A' n d s e r r2 := by
  obtain ⟨h1, h2, h3, h4, h5⟩ := hF
  refine yseq_loc (cN_lo (by decide) h2) (cN_lo (by decide) h2) _ _ _ _ _ _ (fun i j a b x y => h3 _ j (by omega) (by omega) y) (fun k a b => cN_cong (by omega) (h5 _ (by omega))) h
/-- what comes of a STEP (class's turns from i on) -/
def SO (L i D s r : Nat) (A B B' : AM) : Prop :=
  (∃ (A' : AM) (k e r2 : Nat), TK L A' B' ∧ FO A' B' ∧ Adv A A' ∧ PG (i + k) A' ∧ YQ D e r2 A' B' ∧ yseq (cN B') 53 A' (e - s) (3 - D) s e r r2 ∧ (s ≤ e ∧ r ≤ r2) ∧ FRM s r D A B A' B' ∧ ∀ n, f_X9_readYears_12 (n + k) (L : Int) (i : Int) A = f_X9_readYears_12 n (L : Int) ((i + k : Nat) : Int) A') ∨
  (∃ (A' : AM) (k : Nat), FB A' B' ∧ XF A A' ∧ YF B B' ∧ i + k ≤ L ∧ ∀ n, f_X9_readYears_12 (n + k + 1) (L : Int) (i : Int) A = some (0, A'))
theorem PG_L {L i : Nat} {A B : AM} (t : TK L A B) (h : PG i A) : i ≤ L := by
  have := t.2.1.2.2
  have := h.1
  omega
/-- a body, up to its end -/
theorem body_loop {L D w : Nat} (g : Nat) (hD : D < 3) (hw : 1420 ≤ w ∧ w + 8 < 1775)
    (hS : ∀ (i s r : Nat) (A B : AM), TK L A B → FO A B → HN A B → YQ (D + 1) s r A B → PG i A → ¬ A 20 3 = 21 → ∃ B', fc_X11_readStep g ((D + 1 : Nat) : Int) B = some B' ∧ SO L i (D + 1) s r A B B') :
    ∀ (N i e m : Nat) (A B : AM), 2 * ((L : Int) - A 20 11) + (if A 20 0 = 0 then 0 else 1) < (N : Int) → TK L A B → FO A B → HN A B → YQ (D + 1) e m A B → PG i A →
      (∃ (A' B' : AM) (k e2 m2 : Nat), (∀ n, N < n → f_X11_readStep_142 (fc_X11_readStep g) n (D : Int) 1 (w : Int) B = f_X11_readStep_170 (fc_X11_readStep g) 1 (w : Int) B') ∧ TK L A' B' ∧ FO A' B' ∧ A 20 11 ≤ A' 20 11 ∧ A' 20 3 = 21 ∧ PG (i + k) A' ∧ YQ (D + 1) e2 m2 A' B' ∧ yseq (cN B') 53 A' (e2 - e) (3 - (D + 1)) e e2 m m2 ∧ (e ≤ e2 ∧ m ≤ m2) ∧ FRM e m (D + 1) A B A' B' ∧ ∀ n, f_X9_readYears_12 (n + k) (L : Int) (i : Int) A = f_X9_readYears_12 n (L : Int) ((i + k : Nat) : Int) A') ∨
      (∃ (A' B' : AM) (k : Nat), (∀ n, N < n → f_X11_readStep_142 (fc_X11_readStep g) n (D : Int) 1 (w : Int) B = some B') ∧ FB A' B' ∧ XF A A' ∧ YF B B' ∧ i + k ≤ L ∧ ∀ n, f_X9_readYears_12 (n + k + 1) (L : Int) (i : Int) A = some (0, A')) := by
  intro N
  induction N with
  | zero =>
    intro i e m A B hN t
    have := t.2.1.2.2
    exfalso
    by_cases hz : A 20 0 = 0
    · rw [if_pos hz] at hN; omega
    · rw [if_neg hz] at hN; omega
  | succ N ih =>
    intro i e m A B hN t f hH hq hp
    have hb := f.2.2
    have h11 := t.2.1.2.2
    have l142 : ∀ n, f_X11_readStep_142 (fc_X11_readStep g) (n + 1) (D : Int) 1 (w : Int) B = if A 20 3 = 21 then f_X11_readStep_170 (fc_X11_readStep g) 1 (w : Int) B else ((fc_X11_readStep g ((D + 1 : Nat) : Int) B).bind fun x2 => f_X11_readStep_142 (fc_X11_readStep g) n (D : Int) 1 (w : Int) x2) := by
      intro n
      rw [f_X11_readStep_142, if_neg (show ¬ (1 : Int) = 0 by decide), if_neg (show ¬ ¬ B 0 12 = 0 from fun h => h hb), m_isEnd t, bind_s]
      dsimp only
      by_cases g1 : A 20 3 = 21
      · rw [if_pos g1, if_pos g1, if_pos (by decide)]
      · rw [if_neg g1, if_neg g1, if_neg (show ¬ ¬ (0 : Int) = 0 by decide), o_succ (by omega)]
    by_cases hk : A 20 3 = 21
    · refine Or.inl ⟨A, B, 0, e, m, fun n hn => ?_, t, f, Int.le_refl _, hk, hp, hq, ?_, ⟨Nat.le_refl _, Nat.le_refl _⟩, ⟨XF_refl _, YF_refl _, fun _ _ _ _ _ => rfl, fun _ _ => rfl, fun _ _ => rfl⟩, fun n => rfl⟩
      · obtain ⟨n2, rfl⟩ : ∃ n2, n = n2 + 1 := ⟨n - 1, by omega⟩
        rw [l142, if_pos hk]
      · exact yseq_nil _ _ _ _ _ _ _
    · obtain ⟨B1, e1, hO⟩ := hS i e m A B t f hH hq hp hk
      rcases hO with ⟨A1, k, e2, m2, t1, f1, v1, p1, q1, s1, ⟨l1, l2⟩, F1, go1⟩ | ⟨A1, k, b1, x1, y1, kb, halt⟩
      · have hN1 : 2 * ((L : Int) - A1 20 11) + (if A1 20 0 = 0 then 0 else 1) < (N : Int) := by
          have v2 := v1.1
          by_cases hz : A 20 0 = 0
          · -- the text has ended: no STEP can have come of it
            exfalso
            have e3 : A 20 3 = -1 := t.2.2.2.2.2.2.1 (by omega)
            obtain ⟨A2, B2, z1, z2, z3, _⟩ := m_nostep (D := ((D + 1 : Nat) : Int)) (fun _ _ => none) t f (by rw [e3]; decide)
            have go := go1 1
            rcases k with _ | k
            · -- no turn at all: A1 = A in the class
              have := go1 1
              have hf := f1.1
              have w1 := ry_fin (L := L) (i := i) (n := 0) hz
              rw [show (1 : Nat) = 0 + 1 from rfl] at this
              rw [Nat.add_zero] at this
              have hA1 : A1 20 0 = 0 ∨ A 20 11 < A1 20 11 := v1.2
              have g1 := q1.1.1
              have g0 := hq.1.1
              have := g
              cases g with
              | zero => cases e1
              | succ g =>
                have ez : fo_X11_readStep (fc_X11_readStep g) ((D + 1 : Nat) : Int) B = some B1 := e1
                obtain ⟨A3, B3, w1, w2, w3, _⟩ := m_nostep (D := ((D + 1 : Nat) : Int)) (fc_X11_readStep g) t f (by rw [e3]; decide)
                rw [w2] at ez
                have := Option.some.inj ez
                subst this
                have := w3.1
                have := f1.2.2
                omega
            · cases g with
              | zero => cases e1
              | succ g =>
                have ez : fo_X11_readStep (fc_X11_readStep g) ((D + 1 : Nat) : Int) B = some B1 := e1
                obtain ⟨A3, B3, w1, w2, w3, _⟩ := m_nostep (D := ((D + 1 : Nat) : Int)) (fc_X11_readStep g) t f (by rw [e3]; decide)
                rw [w2] at ez
                have := Option.some.inj ez
                subst this
                have := w3.1
                have := f1.2.2
                omega
          · rw [if_neg hz] at hN
            rcases v1.2 with h | h
            · rw [if_pos h]; omega
            · by_cases h0 : A1 20 0 = 0
              · rw [if_pos h0]; omega
              · rw [if_neg h0]; omega
        have H1 := HN_XY hH F1.1 F1.2.1
        rcases ih (i + k) e2 m2 A1 B1 hN1 t1 f1 H1 q1 p1 with ⟨A', B', k2, e3, m3, g1, g2, g3, g4, g5, g6, g7, g8, ⟨g9, g10⟩, g11, g12⟩ | ⟨A', B', k2, g1, g2, g3, g4, g5, g6⟩
        · refine Or.inl ⟨A', B', k + k2, e3, m3, fun n hn => ?_, g2, g3, by have := v1.1; omega, g5, by rw [show i + (k + k2) = i + k + k2 by omega]; exact g6, g7, ?_, ⟨by omega, by omega⟩, FRM_trans l1 l2 (Nat.le_refl _) F1 g11, fun n => ?_⟩
          · obtain ⟨n2, rfl⟩ : ∃ n2, n = n2 + 1 := ⟨n - 1, by omega⟩
            rw [l142, if_neg hk, e1, bind_s]
            exact g1 n2 (by omega)
          · have := yseq_app g8 _ _ _ (yseq_FRM g11 s1)
            rw [show e2 - e + (e3 - e2) = e3 - e by omega] at this
            exact this
          · rw [show n + (k + k2) = (n + k2) + k by omega, go1 (n + k2), g12 n, show i + k + k2 = i + (k + k2) by omega]
        · refine Or.inr ⟨A', B', k + k2, fun n hn => ?_, g2, XF_trans F1.1 g3, YF_trans F1.2.1 g4, by omega, fun n => ?_⟩
          · obtain ⟨n2, rfl⟩ : ∃ n2, n = n2 + 1 := ⟨n - 1, by omega⟩
            rw [l142, if_neg hk, e1, bind_s]
            exact g1 n2 (by omega)
          · rw [show n + (k + k2) + 1 = (n + k2 + 1) + k by omega, go1 (n + k2 + 1)]
            exact g6 n
      · refine Or.inr ⟨A1, am_upd B1 5 (w + 8) (B1 0 26), k, fun n hn => ?_, FB_5 b1, x1, YF_trans y1 (YF_c _ (by omega)), kb, halt⟩
        obtain ⟨n2, rfl⟩ : ∃ n2, n = n2 + 1 + 1 := ⟨n - 2, by omega⟩
        rw [l142, if_neg hk, e1, bind_s, rs142_bad hw.2 b1.1]
