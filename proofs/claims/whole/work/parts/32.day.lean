/-! a DAY -/
def nlove (c : Nat → Int) (k : Nat) : Int := max 0 (min 9 (c (59 + k) + (if ansF c k = (k : Int) then 1 else if ansF c k < 0 then -1 else -2)))
/-- cell of couple k in row r (0 love, 1 holds, 2 he was answered, 3 another one) after a DAY -/
def dayK (c : Nat → Int) (k r : Nat) (v : Int) : Int :=
  if c (65 + k) = 0 then v else if r = 0 then nlove c k else if r = 1 then (if nlove c k ≤ 0 then 0 else v) else if r = 2 then (if ansF c k = (k : Int) then v + 1 else v) else (if ¬ ansF c k = (k : Int) ∧ 0 ≤ ansF c k then v + 1 else v)
def dayC (c : Nat → Int) (i : Nat) : Nat → Int := fun j => if 59 ≤ j ∧ j < 83 ∧ (j - 59) % 6 < i then dayK c ((j - 59) % 6) ((j - 59) / 6) (c j) else c j
def dayW (c : Nat → Int) (w : Nat) (v : Int) : Int := if c 6 = 1 ∧ c (37 + w) = 1 then min 9 (v + 1) else v
def dayV (c d : Nat → Int) (i : Nat) : Nat → Int := fun j => if 27 ≤ j ∧ j < 37 ∧ j - 27 < i then dayW c (j - 27) (c j) else d j
/-- the HOUSE after a DAY -/
def dayF (c : Nat → Int) : Nat → Int := cset (dayV c (dayC c (c 2).toNat) (c 1).toNat) 5 (c 5 + 1)
def partB (c : Nat → Int) (k : Nat) : Bool := decide (¬ c (65 + k) = 0 ∧ nlove c k ≤ 0)
def dayS (c : Nat → Int) : Nat := setB (partB c) (c 2).toNat
theorem dayC_lo {c : Nat → Int} {i j : Nat} (h : j < 59 ∨ 83 ≤ j) : dayC c i j = c j := by unfold dayC; rw [if_neg (by omega)]
theorem dayC_at {c : Nat → Int} {i k r : Nat} (hk : k < 6) (hr : r < 4) : dayC c i (59 + 6 * r + k) = if k < i then dayK c k r (c (59 + 6 * r + k)) else c (59 + 6 * r + k) := by
  have e1 : (59 + 6 * r + k - 59) % 6 = k := by omega
  have e2 : (59 + 6 * r + k - 59) / 6 = r := by omega
  unfold dayC
  rw [e1, e2]
  by_cases h : k < i
  · rw [if_pos ⟨by omega, by omega, h⟩, if_pos h]
  · rw [if_neg (fun g => h g.2.2), if_neg h]
def lovR (r : Nat → Int) (k : Nat) (b : Int) : Nat → Int := fun j =>
  if j = 59 + k then max 0 (min 9 (r (59 + k) + (if b = (k : Int) then 1 else if b < 0 then -1 else -2))) else if j = 71 + k ∧ b = (k : Int) then r j + 1 else if j = 77 + k ∧ ¬ b = (k : Int) ∧ 0 ≤ b then r j + 1 else r j
theorem m_loves19 {P : AM} {r : Nat → Int} {k : Nat} (hk : k < 6) {b s : Int} (h1 : 0 ≤ r (59 + k) ∧ r (59 + k) ≤ 9) (h2 : 0 ≤ r (71 + k) ∧ r (71 + k) ≤ 100000) (h3 : 0 ≤ r (77 + k) ∧ r (77 + k) ≤ 100000) (hs : s = if b = (k : Int) then 1 else if b < 0 then -1 else -2) :
    f_X11_loves_19 (k : Int) b s (am_row P 5 r) = some (am_row P 5 (lovR r k b)) := by
  unfold f_X11_loves_19
  have hs2 : -2 ≤ s ∧ s ≤ 1 := by
    rw [hs]; split
    · omega
    · split <;> omega
  simp (disch := omega) only [o_add_eq, tp59, tp71, tp77, am_row_self, am_row_upd]
  rw [if_pos (by omega), zlet_eq, o_min_eq, o_max_eq]
  by_cases g1 : b = (k : Int)
  · have e : ¬ (71 + k = 59 + k) := by omega
    rw [if_neg (fun h => h g1), if_pos (by omega)]
    simp only [zlet_eq, am_row_self, am_row_upd, e, if_false]
    rw [o_add_eq (by omega) (by omega)]
    congr 2
    funext j
    unfold lovR
    rw [← hs]
    by_cases e1 : j = 59 + k
    · rw [if_neg (by omega), if_pos e1, if_pos e1]
    · by_cases e2 : j = 71 + k
      · rw [if_pos e2, if_neg e1, if_pos ⟨e2, g1⟩, e2]
      · rw [if_neg e2, if_neg e1, if_neg e1, if_neg (fun h => e2 h.1), if_neg (fun h => h.2.1 g1)]
  · rw [if_pos g1]
    by_cases g2 : b < 0
    · rw [if_pos g2]
      congr 2
      funext j
      unfold lovR
      rw [← hs]
      by_cases e1 : j = 59 + k
      · rw [if_pos e1, if_pos e1]
      · rw [if_neg e1, if_neg e1, if_neg (fun h => g1 h.2), if_neg (by omega)]
    · have e : ¬ (77 + k = 59 + k) := by omega
      rw [if_neg g2, if_pos (by omega)]
      simp only [zlet_eq, am_row_self, am_row_upd, e, if_false]
      rw [o_add_eq (by omega) (by omega)]
      congr 2
      funext j
      unfold lovR
      rw [← hs]
      by_cases e1 : j = 59 + k
      · rw [if_neg (by omega), if_pos e1, if_pos e1]
      · by_cases e2 : j = 77 + k
        · rw [if_pos e2, if_neg e1, if_neg (fun h => g1 h.2), if_pos ⟨e2, g1, by omega⟩, e2]
        · rw [if_neg e2, if_neg e1, if_neg e1, if_neg (fun h => g1 h.2), if_neg (fun h => e2 h.1)]
theorem m_loves {P : AM} {r : Nat → Int} {k : Nat} (hk : k < 6) {b : Int} (h1 : 0 ≤ r (59 + k) ∧ r (59 + k) ≤ 9) (h2 : 0 ≤ r (71 + k) ∧ r (71 + k) ≤ 100000) (h3 : 0 ≤ r (77 + k) ∧ r (77 + k) ≤ 100000) :
    f_X11_loves (k : Int) b (am_row P 5 r) = some (am_row P 5 (lovR r k b)) := by
  unfold f_X11_loves
  by_cases g1 : b = (k : Int)
  · rw [if_neg (fun h => h g1)]
    exact m_loves19 hk h1 h2 h3 (by rw [if_pos g1])
  · rw [if_pos g1]
    by_cases g2 : 0 ≤ b
    · rw [if_pos g2]
      exact m_loves19 hk h1 h2 h3 (by rw [if_neg g1, if_neg (by omega)])
    · rw [if_neg g2]
      exact m_loves19 hk h1 h2 h3 (by rw [if_neg g1, if_pos (by omega)])
theorem dayC_succ {c : Nat → Int} {k : Nat} (hk : k < 6) (hh : ¬ c (65 + k) = 0) : dayC c (k + 1) = fun j => if j = 65 + k then (if nlove c k ≤ 0 then 0 else c (65 + k)) else lovR (dayC c k) k (ansF c k) j := by
  have hc : ∀ r, r < 4 → dayC c k (59 + 6 * r + k) = c (59 + 6 * r + k) := fun r hr => by rw [dayC_at hk hr, if_neg (by omega)]
  have hc0 : dayC c k (59 + k) = c (59 + k) := hc 0 (by omega)
  have hc2 : dayC c k (71 + k) = c (71 + k) := hc 2 (by omega)
  have hc3 : dayC c k (77 + k) = c (77 + k) := hc 3 (by omega)
  have hs : ∀ r, r < 4 → dayC c (k + 1) (59 + 6 * r + k) = dayK c k r (c (59 + 6 * r + k)) := fun r hr => by rw [dayC_at hk hr, if_pos (by omega)]
  have hs0 : dayC c (k + 1) (59 + k) = dayK c k 0 (c (59 + k)) := hs 0 (by omega)
  have hs1 : dayC c (k + 1) (65 + k) = dayK c k 1 (c (65 + k)) := hs 1 (by omega)
  have hs2 : dayC c (k + 1) (71 + k) = dayK c k 2 (c (71 + k)) := hs 2 (by omega)
  have hs3 : dayC c (k + 1) (77 + k) = dayK c k 3 (c (77 + k)) := hs 3 (by omega)
  funext j
  by_cases e1 : j = 65 + k
  · rw [if_pos e1, e1, hs1]
    unfold dayK
    rw [if_neg hh, if_neg (by omega), if_pos rfl]
  · rw [if_neg e1]
    unfold lovR
    by_cases e0 : j = 59 + k
    · rw [if_pos e0, e0, hs0, hc0]
      unfold dayK
      rw [if_neg hh, if_pos rfl]
      rfl
    · rw [if_neg e0]
      by_cases e2 : j = 71 + k
      · subst e2
        rw [hs2]
        unfold dayK
        rw [if_neg hh, if_neg (by omega), if_neg (by omega), if_pos rfl]
        by_cases g : ansF c k = (k : Int)
        · rw [if_pos g, if_pos ⟨rfl, g⟩, hc2]
        · rw [if_neg g, if_neg (fun h => g h.2), if_neg (by omega), hc2]
      · rw [if_neg (fun h => e2 h.1)]
        by_cases e3 : j = 77 + k
        · subst e3
          rw [hs3]
          unfold dayK
          rw [if_neg hh, if_neg (by omega), if_neg (by omega), if_neg (by omega)]
          by_cases g : ¬ ansF c k = (k : Int) ∧ 0 ≤ ansF c k
          · rw [if_pos g, if_pos ⟨rfl, g⟩, hc3]
          · rw [if_neg g, if_neg (fun h => g h.2), hc3]
        · rw [if_neg (fun h => e3 h.1)]
          unfold dayC
          by_cases g : 59 ≤ j ∧ j < 83 ∧ (j - 59) % 6 < k
          · rw [if_pos g, if_pos ⟨g.1, g.2.1, by omega⟩]
          · rw [if_neg g, if_neg (fun h => g ⟨h.1, h.2.1, by omega⟩)]
theorem dayC_skip {c : Nat → Int} {k : Nat} (hh : c (65 + k) = 0) : dayC c (k + 1) = dayC c k := by
  funext j
  unfold dayC
  by_cases g : 59 ≤ j ∧ j < 83 ∧ (j - 59) % 6 < k
  · rw [if_pos g, if_pos ⟨g.1, g.2.1, by omega⟩]
  · rw [if_neg g]
    by_cases g2 : 59 ≤ j ∧ j < 83 ∧ (j - 59) % 6 < k + 1
    · have e : (j - 59) % 6 = k := by omega
      rw [if_pos g2, e]
      unfold dayK
      rw [if_pos hh]
    · rw [if_neg g2]
theorem am_row_row (M : AM) (q : Nat) (f g : Nat → Int) : am_row (am_row M q f) q g = am_row M q g := by
  funext a
  by_cases h : a = q <;> simp [am_row, h]
/-- the model's answers, laid in cell 10 -/
def anR (c : Nat → Int) (i : Nat) (r : Nat → Int) : Nat → Int := fun j => if j < i then (if c (65 + j) = 0 then -2 else ansF c j) else r j
theorem m_day8 {c : Nat → Int} {P : AM} (hI : Ic c) (h5 : P 5 = c) (hL : Lf c P) : f_X11_goesDay_8 zB 0 0 P = f_X11_goesDay_54 zB 0 0 (am_row P 10 (anR c (c 2).toNat (P 10))) := by
  have hc2 := hI.2.2.1
  have e0 : am_row P 10 (anR c 0 (P 10)) = P := am_row_id _ _ _ (by funext j; simp [anR])
  refine up_loop0 (fun n i s => f_X11_goesDay_8 n 0 (i : Int) s) (fun i => am_row P 10 (anR c i (P 10))) (c 2).toNat _ P e0 ?_ ?_ (by omega)
  · intro n i hi
    have hr5 : am_row P 10 (anR c i (P 10)) 5 = c := (am_row_ne (by decide)).trans h5
    have hrow : ∀ x, (if c (65 + i) = 0 then -2 else ansF c i) = x → am_upd (am_row P 10 (anR c i (P 10))) 10 i x = am_row P 10 (anR c (i + 1) (P 10)) := by
      intro x hx
      rw [am_row_upd]
      congr 1
      funext b
      unfold anR
      by_cases e1 : b = i
      · subst e1; rw [if_pos rfl, if_pos (by omega), hx]
      · by_cases e2 : b < i
        · have e3 : b < i + 1 := by omega
          rw [if_neg e1]
          simp only [e2, e3, if_true]
        · rw [if_neg e1, if_neg e2, if_neg (by omega)]
    simp only [f_X11_goesDay_8, hr5, tn2]
    simp (disch := omega) only [o_add_eq (x := 65), tp65]
    rw [if_neg (by omega), if_pos (by omega)]
    by_cases g : c (65 + i) = 0
    · rw [if_neg (fun h => h g), if_pos (by omega), zlet_eq, tnc, hrow _ (by rw [if_pos g]), o_succ (by omega)]
    · have hL2 : Lf c (am_row P 10 (anR c i (P 10))) := fun p q hp hq => by rw [am_row_ne (by decide)]; exact hL p q hp hq
      rw [if_pos g, m_answerOf hI hr5 hL2 (by omega), bind_s, if_pos (by omega), zlet_eq, tnc, hrow _ (by rw [if_neg g]), o_succ (by omega)]
  · intro n
    have hr5 : am_row P 10 (anR c (c 2).toNat (P 10)) 5 = c := (am_row_ne (by decide)).trans h5
    simp only [f_X11_goesDay_8, hr5, tn2]
    rw [if_pos (by omega)]
theorem m_day54 {c : Nat → Int} {P : AM} (hI : Ic c) (h5 : P 5 = c) (h10 : ∀ k : Nat, (k : Int) < c 2 → P 10 k = if c (65 + k) = 0 then -2 else ansF c k) :
    f_X11_goesDay_54 zB 0 0 P = f_X11_goesDay_127 zB (dayS c : Nat) 0 (am_row P 5 (dayC c (c 2).toNat)) := by
  have hc2 := hI.2.2.1
  have hc5 := hI.2.2.2.2.2.1
  have e0 : am_row P 5 (dayC c 0) = P := am_row_id _ _ _ (by funext j; rw [h5]; simp [dayC])
  refine up_loop0 (fun n i (s : Int × AM) => f_X11_goesDay_54 n s.1 (i : Int) s.2) (fun i => (((setB (partB c) i : Nat) : Int), am_row P 5 (dayC c i))) (c 2).toNat _ (0, P) (by show (((0 : Nat) : Int), am_row P 5 (dayC c 0)) = (0, P); rw [e0]; rfl) ?_ ?_ (by omega)
  · intro n i hi
    have hk := Ic_k hI (k := i) (by omega)
    have hr5 : am_row P 5 (dayC c i) 5 = dayC c i := am_row_self _ _ _
    have hr10 : am_row P 5 (dayC c i) 10 = P 10 := am_row_ne (by decide)
    have hd2 : dayC c i 2 = c 2 := dayC_lo (by omega)
    have hc : ∀ r, r < 4 → dayC c i (59 + 6 * r + i) = c (59 + 6 * r + i) := fun r hr => by rw [dayC_at (by omega) hr, if_neg (by omega)]
    have hc0 : dayC c i (59 + i) = c (59 + i) := hc 0 (by omega)
    have hc1 : dayC c i (71 + i) = c (71 + i) := hc 2 (by omega)
    have hc3 : dayC c i (77 + i) = c (77 + i) := hc 3 (by omega)
    simp only [f_X11_goesDay_54, hr5, hr10, tn2, hd2, tnc]
    rw [if_neg (by omega), if_pos (by omega), h10 i (by omega)]
    have hans := ansF_r hI i
    by_cases g : c (65 + i) = 0
    · rw [if_pos g, if_neg (by omega), o_succ (by omega), ← set_skip (p := partB c) (n := i) (by simp [partB, g]), dayC_skip g]
    · rw [if_neg g, if_pos (by omega), m_loves (by omega) (by rw [hc0]; omega) (by rw [hc1]; omega) (by rw [hc3]; omega), bind_s]
      simp only [am_row_self, am_row_upd]
      simp (disch := omega) only [o_add_eq (x := 59), o_add_eq (x := 65), tp59, tp65]
      have hl : lovR (dayC c i) i (ansF c i) (59 + i) = nlove c i := by
        unfold lovR nlove
        rw [if_pos rfl, hc0]
      rw [if_pos (by omega), hl]
      by_cases g2 : nlove c i ≤ 0
      · rw [if_pos g2, if_pos (by omega), zlet_eq, o_succ (by omega), o_or_set1 (by omega) (by simp [partB, g, g2]), dayC_succ (by omega) g]
        simp only [g2, if_true]
      · rw [if_neg g2, o_succ (by omega), ← set_skip (p := partB c) (n := i) (by simp [partB, g2]), dayC_succ (by omega) g]
        simp only [g2, if_false]
        congr 2
        funext j
        by_cases e : j = 65 + i
        · rw [if_pos e, e]
          unfold lovR
          have h1 : dayC c i (65 + i) = c (65 + i) := hc 1 (by omega)
          rw [if_neg (by omega), if_neg (by omega), if_neg (by omega), h1]
        · rw [if_neg e]
  · intro n
    have hr5 : am_row P 5 (dayC c (c 2).toNat) 5 = dayC c (c 2).toNat := am_row_self _ _ _
    have hd2 : dayC c (c 2).toNat 2 = c 2 := dayC_lo (by omega)
    simp only [f_X11_goesDay_54, hr5, tn2, hd2]
    rw [if_pos (by omega)]
    rfl
theorem m_day127 {c : Nat → Int} {P : AM} (hI : Ic c) (s : Int) : f_X11_goesDay_127 zB s 0 (am_row P 5 (dayC c (c 2).toNat)) = some (s, am_row P 5 (dayF c)) := by
  have hc1 := hI.2.1
  have hc5 := hI.2.2.2.2.2.1
  generalize hd : dayC c (c 2).toNat = d
  have hlo : ∀ j, j < 59 → d j = c j := fun j hj => by rw [← hd]; exact dayC_lo (Or.inl hj)
  have e0 : dayV c d 0 = d := by funext j; unfold dayV; rw [if_neg (by omega)]
  have hv : ∀ i j, j < 27 ∨ 37 ≤ j → dayV c d i j = d j := fun i j hj => by unfold dayV; rw [if_neg (by omega)]
  refine up_loop0 (fun n i st => f_X11_goesDay_127 n s (i : Int) st) (fun i => am_row P 5 (dayV c d i)) (c 1).toNat _ _ (by rw [e0]) ?_ ?_ (by omega)
  · intro n i hi
    have hw := Ic_w hI (w := i) (by omega)
    have hstep : dayV c d (i + 1) = fun b => if b = 27 + i then dayW c i (c (27 + i)) else dayV c d i b := by
      funext b
      unfold dayV
      by_cases e : b = 27 + i
      · subst e
        rw [if_pos rfl, if_pos (by omega), Nat.add_sub_cancel_left]
      · rw [if_neg e]
        by_cases g : 27 ≤ b ∧ b < 37 ∧ b - 27 < i
        · rw [if_pos g, if_pos (by omega)]
        · rw [if_neg g, if_neg (by omega)]
    have hsame : dayW c i (c (27 + i)) = c (27 + i) → dayV c d (i + 1) = dayV c d i := by
      intro h
      rw [hstep]
      funext b
      split
      · rename_i e
        subst e
        unfold dayV
        rw [if_neg (by omega), h, hlo _ (by omega)]
      · rfl
    have h27 : dayV c d i (27 + i) = c (27 + i) := by unfold dayV; rw [if_neg (by omega)]; exact hlo _ (by omega)
    have h37 : dayV c d i (37 + i) = c (37 + i) := by rw [hv i _ (by omega)]; exact hlo _ (by omega)
    simp only [f_X11_goesDay_127, am_row_self, am_row_upd, tn1, tn6]
    rw [hv i 1 (by omega), hlo 1 (by omega), hv i 6 (by omega), hlo 6 (by omega), if_neg (by omega)]
    by_cases g : c 6 = 1
    · simp (disch := omega) only [o_add_eq (x := 37), o_add_eq (x := 27), tp37, tp27]
      rw [if_neg (fun h => h g), if_pos (by omega), h37]
      by_cases g2 : c (37 + i) = 1
      · rw [if_neg (fun h => h g2), if_pos (by omega), zlet_eq, h27, o_succ (by omega), o_add_eq (by omega) (by omega), o_min_eq, hstep]
        unfold dayW
        rw [if_pos ⟨g, g2⟩]
      · rw [if_pos g2, hsame (by unfold dayW; rw [if_neg (fun h => g2 h.2)]), o_succ (by omega)]
    · rw [if_pos g, hsame (by unfold dayW; rw [if_neg (fun h => g h.1)]), o_succ (by omega)]
  · intro n
    simp only [f_X11_goesDay_127, am_row_self, am_row_upd, tn1, tn5]
    rw [hv _ 1 (by omega), hlo 1 (by omega), if_pos (by omega), zlet_eq, hv _ 5 (by omega), hlo 5 (by omega), o_add_eq (by omega) (by omega)]
    unfold dayF
    rw [hd]
    rfl
theorem m_goesDay {M : AM} (hI : Ic (M 5)) : ∃ N, f_X11_goesDay M = some (((dayS (M 5) : Nat) : Int), N) ∧ N 5 = dayF (M 5) ∧ Eo [5, 9, 10] M N := by
  have hc2 := hI.2.2.1
  unfold f_X11_goesDay
  rw [m_laysFar hI, bind_s, m_day8 hI (LF5 M) (Lf_LF M)]
  generalize hP : am_row (LF M) 10 (anR (M 5) (M 5 2).toNat (LF M 10)) = P
  have h5 : P 5 = M 5 := by rw [← hP, am_row_ne (by decide), LF5]
  have h10 : ∀ k : Nat, (k : Int) < M 5 2 → P 10 k = if M 5 (65 + k) = 0 then -2 else ansF (M 5) k := by
    intro k hk
    rw [← hP, am_row_self]
    unfold anR
    rw [if_pos (by omega)]
  rw [m_day54 hI h5 h10, m_day127 hI]
  refine ⟨_, rfl, am_row_self _ _ _, ?_⟩
  refine Eo_row _ (by simp) ?_
  rw [← hP]
  exact Eo_row _ (by simp) (Eo_sub (LF_Eo M) (by simp))
/-! what a DAY leaves -/
theorem dayF_5 (c : Nat → Int) : dayF c 5 = c 5 + 1 := cset_eq _ _ _
theorem dayF_lo {c : Nat → Int} {j : Nat} (h5 : j ≠ 5) (h : j < 27 ∨ 37 ≤ j ∧ j < 59 ∨ 83 ≤ j) : dayF c j = c j := by
  unfold dayF
  rw [cset_ne h5]
  unfold dayV
  rw [if_neg (by omega), dayC_lo (by omega)]
theorem dayF_w {c : Nat → Int} {w : Nat} (hw : (w : Int) < c 1) (h10 : w < 10) : dayF c (27 + w) = dayW c w (c (27 + w)) := by
  unfold dayF
  rw [cset_ne (by omega)]
  unfold dayV
  rw [if_pos (by omega), Nat.add_sub_cancel_left]
theorem dayF_k {c : Nat → Int} {k r : Nat} (hk : (k : Int) < c 2) (h6 : k < 6) (hr : r < 4) : dayF c (59 + 6 * r + k) = dayK c k r (c (59 + 6 * r + k)) := by
  unfold dayF
  rw [cset_ne (by omega)]
  unfold dayV
  rw [if_neg (by omega), dayC_at h6 hr, if_pos (by omega)]
theorem nlove_b (c : Nat → Int) (k : Nat) : 0 ≤ nlove c k ∧ nlove c k ≤ 9 := by unfold nlove; omega
theorem Ic_dayF {c : Nat → Int} (hI : Ic c) (h5 : c 5 < 20000) : Ic (dayF c) := by
  have hI0 := hI
  obtain ⟨h0, h1, h2, h3, h4, h5b, h6, h7, h8⟩ := hI
  unfold Ic
  rw [dayF_5, dayF_lo (j := 0) (by decide) (by omega), dayF_lo (j := 1) (by decide) (by omega), dayF_lo (j := 2) (by decide) (by omega), dayF_lo (j := 3) (by decide) (by omega), dayF_lo (j := 4) (by decide) (by omega), dayF_lo (j := 6) (by decide) (by omega)]
  refine ⟨h0, h1, h2, h3, h4, by omega, h6, fun w hw => ?_, fun k hk => ?_⟩
  · have := h7 w hw
    rw [dayF_lo (j := 7 + w) (by omega) (by omega), dayF_lo (j := 17 + w) (by omega) (by omega), dayF_lo (j := 37 + w) (by omega) (by omega), dayF_w hw (by omega)]
    refine ⟨this.1, this.2.1, ?_, this.2.2.2⟩
    unfold dayW
    split <;> omega
  · have := h8 k hk
    have hn := nlove_b c k
    have e0 : dayF c (59 + k) = dayK c k 0 (c (59 + k)) := dayF_k (r := 0) hk (by omega) (by omega)
    have e1 : dayF c (65 + k) = dayK c k 1 (c (65 + k)) := dayF_k (r := 1) hk (by omega) (by omega)
    have e2 : dayF c (71 + k) = dayK c k 2 (c (71 + k)) := dayF_k (r := 2) hk (by omega) (by omega)
    have e3 : dayF c (77 + k) = dayK c k 3 (c (77 + k)) := dayF_k (r := 3) hk (by omega) (by omega)
    rw [dayF_lo (j := 47 + k) (by omega) (by omega), dayF_lo (j := 53 + k) (by omega) (by omega), e0, e1, e2, e3]
    unfold dayK
    by_cases g : c (65 + k) = 0
    · rw [if_pos g, if_pos g, if_pos g, if_pos g]
      exact ⟨this.1, this.2.1, this.2.2.1, this.2.2.2.1, this.2.2.2.2.1, by omega, by omega⟩
    · simp only [g, if_false, if_true, show ¬ (1 : Nat) = 0 by decide, show ¬ (2 : Nat) = 0 by decide, show ¬ (2 : Nat) = 1 by decide, show ¬ (3 : Nat) = 0 by decide, show ¬ (3 : Nat) = 1 by decide, show ¬ (3 : Nat) = 2 by decide]
      refine ⟨this.1, this.2.1, hn, ?_, ?_, ?_, ?_⟩
      · split
        · exact Or.inl rfl
        · exact this.2.2.2.1
      · split
        · intro h; omega
        · intro _; omega
      · split <;> omega
      · split <;> omega
