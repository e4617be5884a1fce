/-! LIVE: STEPS s .. e, rows r .. r2 -/
theorem LG_LR {c0 : Nat → Int} {q : Nat} {A0 B0 A B' : AM} {lo r r2 x : Nat} (h : LG c0 q A0 B0 A lo r r2 x B') : ∃ A', LR c0 q A0 B0 A' B' := by
  obtain ⟨A', k, g, _⟩ := h
  exact ⟨A', g⟩
/-- one STEP of either kind, then the others -/
theorem seq_fin {c0 : Nat → Int} {q : Nat} {A0 B0 A B B2 : AM} {h : Int → AM → Option AM} {s e u r r1 r2 : Nat} (hs : s < 30) (hse : s < e) (hsu : s < u) (hrr : r1 ≤ r2) (hr1 : r ≤ r1) (hu : c0 (93 + 9 * s) = (u : Int)) (h0 : B 0 35 = 0) (key : h (s : Int) B = some B2) (hG : LG c0 q A0 B0 A r r r1 0 B2)
    (rest : ∀ A2, LR c0 q A0 B0 A2 B2 → B2 0 35 = 0 → ∃ B', (∀ m, e - u < m → f_X11_doAll_2 h m (e : Int) (u : Int) B2 = some B') ∧ LG c0 q A0 B0 A2 r1 r1 r2 0 B') :
    ∃ B', (∀ m, e - s < m → f_X11_doAll_2 h m (e : Int) (s : Int) B = some B') ∧ LG c0 q A0 B0 A r r r2 0 B' := by
  have next : ∀ {A B : AM}, LR c0 q A0 B0 A B → B 5 (93 + 9 * s) = (u : Int) := fun h => by rw [h.1.2.2 _ (by omega) (by omega), hu]
  by_cases ho : B2 0 35 = 0
  · obtain ⟨A2, k, g1, g2, g3⟩ := hG
    rcases g3 with ⟨g3, g4, g5⟩ | ⟨g3, g4⟩
    · obtain ⟨B', v1, v2⟩ := rest A2 g1 ho
      refine ⟨B', fun m3 hm => ?_, LG_pre (k1 := k) (y := 0) g5 (by omega) (fun j hj => g4 j (by omega)) hr1 v2⟩
      obtain ⟨m2, rfl⟩ : ∃ m2, m3 = m2 + 1 := ⟨m3 - 1, by omega⟩
      rw [all_one hs hse h0 key (next g1)]
      exact v1 m2 (by omega)
    · exact absurd ho g3
  · obtain ⟨A2, g1⟩ := LG_LR hG
    refine ⟨B2, fun m3 hm => ?_, LG_halt (Nat.le_refl _) hG ho⟩
    obtain ⟨m2, rfl⟩ : ∃ m2, m3 = m2 + 1 + 1 := ⟨m3 - 2, by omega⟩
    rw [all_one hs hse h0 key (next g1)]
    exact all_over ho
theorem run_seq {c0 : Nat → Int} {q : Nat} {A0 B0 : AM} {R : Nat} (hq : q = 23 ∨ q = 34) (hR : A0 45 2 = (R : Int)) (h60 : R ≤ 60) : ∀ (n d s e r r2 g : Nat) (A B : AM), yseq c0 45 A0 n d s e r r2 → r2 ≤ R → e ≤ 30 → d ≤ g → LR c0 q A0 B0 A B → B 0 35 = 0 →
    ∃ B', (∀ m, e - s < m → f_X11_doAll_2 (fo_X11_doOne (fc_X11_doAll g)) m (e : Int) (s : Int) B = some B') ∧ LG c0 q A0 B0 A r r r2 0 B' := by
  intro n
  induction n with
  | zero =>
    rintro d s e r r2 g A B ⟨rfl, rfl⟩ _ _ _ hL h0
    refine ⟨B, fun m hm => ?_, LG_nil hL h0⟩
    obtain ⟨m2, rfl⟩ : ∃ m2, m = m2 + 1 := ⟨m - 1, by omega⟩
    exact all_end (Int.le_refl _)
  | succ n ih =>
    intro d s e r r2 g A B hY hr2 he hdg hL h0
    rcases hY with ⟨rfl, rfl⟩ | ⟨hse, hy, hY⟩
    · refine ⟨B, fun m hm => ?_, LG_nil hL h0⟩
      obtain ⟨m2, rfl⟩ : ∃ m2, m = m2 + 1 := ⟨m - 1, by omega⟩
      exact all_end (Int.le_refl _)
    · have hs : s < 30 := by omega
      obtain ⟨y1, y2, y3⟩ := ystep_kind hy
      replace y3 : A0 46 r = ykind (c0 (85 + 9 * s)) := y3
      rcases hY with ⟨k1, k2, hY⟩ | ⟨k1, d', t, m, hd, et, hte, hst, hYb, e21, e51m, e51r, hY⟩
      · have hmo := yseq_mono _ _ _ _ _ _ hY
        have hk6 : ¬ c0 (85 + 9 * s) = 6 := fun h => k1 (Or.inl h)
        have hk7 : ¬ c0 (85 + 9 * s) = 7 := fun h => k1 (Or.inr h)
        clear k1
        by_cases h3 : A 69 0 < 300
        · by_cases h8 : c0 (85 + 9 * s) = 8
          · obtain ⟨B2, v1, v2, v3⟩ := stop_case (r := r) (r2 := r + 1) (fc_X11_doAll g) hq hR h60 (by omega) hs (by rw [y3, h8]; rfl) h8 hL h3
            exact seq_fin hs hse (by omega) hmo (by omega) k2 h0 v1 v3 (fun A2 _ h => absurd h v2)
          · obtain ⟨B2, A2, x1, x2, x3, x4, x5, x6⟩ := run_plain (fc_X11_doAll g) hq hR h60 (by omega) hs hy (by omega) hL h0 h3
            exact seq_fin hs hse (by omega) hmo (by omega) k2 h0 x1 (LG_pre (k1 := 1) (y := 0) x6 (by omega) (fun j _ => by rw [x5]) (Nat.le_refl r) (LG_nil x2 x3)) (fun A3 g1 g2 => ih d (s + 1) e (r + 1) r2 g A3 B2 hY hr2 he hdg g1 g2)
        · obtain ⟨B2, v1, v2, v3⟩ := full_case (r := r) (r2 := r + 1) (s := s) (fc_X11_doAll g) hq hR h60 (by omega) (by rw [y3]; exact ykind_21 ⟨y1, y2⟩) hL h3
          exact seq_fin hs hse (by omega) hmo (by omega) k2 h0 v1 v3 (fun A2 _ h => absurd h v2)
      · replace e21 : A0 46 m = 21 := e21
        replace e51m : A0 51 m = (r : Int) := e51m
        replace e51r : A0 51 r = (m : Int) := e51r
        have hmb := yseq_mono _ _ _ _ _ _ hYb
        have hme := yseq_mono _ _ _ _ _ _ hY
        obtain ⟨g', rfl⟩ : ∃ g', g = g' + 1 := ⟨g - 1, by omega⟩
        have body : ∀ A B, LR c0 q A0 B0 A B → B 0 35 = 0 → ∃ B', fc_X11_doAll (g' + 1) ((s + 1 : Nat) : Int) (t : Int) B = some B' ∧ LG c0 q A0 B0 A (r + 1) (r + 1) m 0 B' := by
          intro A B hL h0
          obtain ⟨B', v1, v2⟩ := ih d' (s + 1) t (r + 1) m g' A B hYb (by omega) (by omega) (by omega) hL h0
          refine ⟨B', ?_, v2⟩
          show fo_X11_doAll (fo_X11_doOne (fc_X11_doAll g')) _ _ _ = _
          unfold fo_X11_doAll
          exact v1 zB (by unfold zB; omega)
        by_cases h3 : A 69 0 < 300
        · by_cases h6 : c0 (85 + 9 * s) = 6
          · obtain ⟨B2, v1, v2⟩ := when_case (fc_X11_doAll (g' + 1)) hq hR h60 (by omega) (by omega) hs hy h6 e21 e51m e51r et body hL h0 h3
            exact seq_fin hs hse hst hme (by omega) et h0 v1 v2 (fun A3 g1 g2 => ih d t e (m + 1) r2 (g' + 1) A3 B2 hY hr2 he hdg g1 g2)
          · obtain ⟨B2, v1, v2⟩ := loop_case hq hR h60 (by omega) (by omega) hs hy (k1.resolve_left h6) e21 e51m et body hL h0 h3
            exact seq_fin hs hse hst hme (by omega) et h0 v1 v2 (fun A3 g1 g2 => ih d t e (m + 1) r2 (g' + 1) A3 B2 hY hr2 he hdg g1 g2)
        · obtain ⟨B2, v1, v2, v3⟩ := full_case (r := r) (r2 := m + 1) (s := s) (fc_X11_doAll (g' + 1)) hq hR h60 (by omega) (by rw [y3]; exact ykind_21 ⟨y1, y2⟩) hL h3
          exact seq_fin hs hse hst hme (by omega) et h0 v1 v3 (fun A2 _ h => absurd h v2)
