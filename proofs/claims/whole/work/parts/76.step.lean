/-! LIVE: a plain STEP -/
def plF (c : Nat → Int) (z k a : Int) : Bool :=
  if k = 0 then decide (c 5 + a ≤ 9999) else if k = 1 then !decide (c 6 = 1) else if k = 2 then !decide (c 6 = 0) else if k = 3 then mdB c a.toNat else if k = 4 then decide (c (37 + a.toNat) = 1) else !decide (hitK c z = 0)
def plC (c : Nat → Int) (z k a : Int) : Nat → Int :=
  if k = 0 then (if c 5 + a ≤ 9999 then dayN c a.toNat else c) else if k = 1 then cset c 6 1 else if k = 2 then cset c 6 0 else if k = 3 then mdC c a.toNat else if k = 4 then (if c (37 + a.toNat) = 1 then cset c (37 + a.toNat) 0 else c) else hitC c z
def plZ (c : Nat → Int) (z k : Int) : Int := if k = 5 then hitZ c z else z
def plT (c : Nat → Int) (z k a : Int) (i : Nat) : Int :=
  if i = 0 then (if plF c z k a then 0 else 1)
  else if i = 1 then (if k = 0 then (if c 5 + a ≤ 9999 then a else 0) else 0)
  else if i = 2 then (if k = 0 then (if c 5 + a ≤ 9999 then ((lostC c a.toNat : Nat) : Int) else 0) else 0)
  else if i = 3 then (if k = 4 then (if c (37 + a.toNat) = 1 then 1 else 0) else if k = 5 then (if hitK c z = 2 then 1 else 0) else 0)
  else 0
/-- what a life may touch in the class -/
def LX (q : Nat) (M N : AM) : Prop := ∀ x, x ≠ q → x ≠ q + 3 → x ≠ q + 6 → x ≠ q + 7 → x ≠ q + 8 → x ≠ q + 10 → x ≠ 69 → x ≠ 70 → x ≠ 71 → x ≠ 73 → N x = M x
theorem x_248 {M : AM} (r : Nat) (hr : r < 60) (f : Bool) (h70 : 0 ≤ M 70 0 ∧ M 70 0 < 1000000) :
    f_X3_doStep_248 (r : Int) (if f then 1 else 0) M = some (((r + 1 : Nat) : Int), if f then M else am_upd M 70 0 (M 70 0 + 1)) := by
  unfold f_X3_doStep_248
  rw [o_succ (by omega)]
  cases f
  · simp only [Bool.false_eq_true, if_false, not_true_eq_false, tn0]
    rw [zlet_eq, o_add_eq (by omega) (by omega)]
  · simp only [if_true, i10, not_false_eq_true]
def T70 (M : AM) : Prop := ∀ i, i < 4 → 0 ≤ M 70 i ∧ M 70 i < 900000
/-- the end of a STEP: fruit counted -/
theorem x_stepEnd {c c2 : Nat → Int} {z k a : Int} {q r : Nat} {M P : AM} (hq : q + 10 < 45) (hr : r < 60) (h0 : P 70 0 = M 70 0) (hT : T70 M) (hR : Rh c2 q P) (hc : plC c z k a = c2) (hz : P 69 4 = plZ c z k) (h3 : ∀ i, i = 1 ∨ i = 2 ∨ i = 3 → P 70 i = M 70 i + plT c z k a i) (h4 : ∀ j, 4 ≤ j → P 70 j = M 70 j) (hE : LX q M P) (hj : ∀ j, j ≠ 4 → P 69 j = M 69 j) (h71 : P 71 = M 71) (f : Bool) (hf : plF c z k a = f) :
    ∃ N, f_X3_doStep_248 (r : Int) (if f then 1 else 0) P = some (((r + 1 : Nat) : Int), N) ∧ Rh (plC c z k a) q N ∧ N 69 4 = plZ c z k ∧ (∀ i, i < 4 → N 70 i = M 70 i + plT c z k a i) ∧ (∀ j, 4 ≤ j → N 70 j = M 70 j) ∧ LX q M N ∧ (∀ j, j ≠ 4 → N 69 j = M 69 j) ∧ N 71 = M 71 := by
  have hT0 := hT 0 (by decide)
  have e0 : plT c z k a 0 = if f then 0 else 1 := by unfold plT; rw [if_pos rfl, hf]
  rw [x_248 r hr f (by rw [h0]; omega), hc]
  cases f
  · simp only [Bool.false_eq_true, if_false] at e0 ⊢
    refine ⟨_, rfl, Rh_cong (fun i hi => am_upd_cell (by omega)) hR, by rw [am_upd_cell (by decide)]; exact hz, fun i hi => ?_, fun j hj4 => ?_, fun x x1 x2 x3 x4 x5 x6 x7 x8 x9 x10 => ?_, fun j hj4 => ?_, ?_⟩
    · by_cases e : i = 0
      · subst e; rw [am_upd_self, e0, h0]
      · rw [am_upd_ne (fun h => e h.2)]; exact h3 i (by omega)
    · rw [am_upd_ne (by omega)]; exact h4 j hj4
    · rw [am_upd_cell x8]; exact hE x x1 x2 x3 x4 x5 x6 x7 x8 x9 x10
    · rw [am_upd_cell (by decide)]; exact hj j hj4
    · rw [am_upd_cell (by decide)]; exact h71
  · simp only [if_true] at e0 ⊢
    refine ⟨P, rfl, hR, hz, fun i hi => ?_, h4, hE, hj, h71⟩
    by_cases e : i = 0
    · subst e; rw [e0, h0]; omega
    · exact h3 i (by omega)
theorem x_step5 {c : Nat → Int} {q r : Nat} {M : AM} (hI : Ic c) (hR : Rh c q M) (hq : q + 10 < 45) (hr : r < 60) (hz : 0 ≤ M 69 4 ∧ M 69 4 < 65536) (hT : T70 M) (hk : M 46 r = 16) :
    ∃ N, f_X3_doStep q (r : Int) M = some (((r + 1 : Nat) : Int), N) ∧ Rh (plC c (M 69 4) 5 0) q N ∧ N 69 4 = plZ c (M 69 4) 5 ∧ (∀ i, i < 4 → N 70 i = M 70 i + plT c (M 69 4) 5 0 i) ∧ (∀ j, 4 ≤ j → N 70 j = M 70 j) ∧ LX q M N ∧ (∀ j, j ≠ 4 → N 69 j = M 69 j) ∧ N 71 = M 71 := by
  have h3 := hT 3 (by decide)
  obtain ⟨P, e, p1, p2, p3, p4, p5, p6⟩ := x_hurt hI hR (by omega) hz (by omega)
  unfold f_X3_doStep
  rw [if_pos (by omega)]
  simp only [tnc, hk]
  rw [if_neg (by decide), if_neg (by decide), if_neg (by decide), if_neg (by decide), if_neg (by decide), if_pos trivial, e, bind_s]
  dsimp only
  have hf : plF c (M 69 4) 5 0 = !decide (hitK c (M 69 4) = 0) := rfl
  have ef : (if hitK c (M 69 4) = 0 then (0 : Int) else 1) = if (!decide (hitK c (M 69 4) = 0)) then 1 else 0 := by
    by_cases g : hitK c (M 69 4) = 0
    · rw [if_pos g, decide_eq_true g]; rfl
    · rw [if_neg g, decide_eq_false g]; rfl
  rw [ef]
  refine x_stepEnd (c := c) (z := M 69 4) (k := 5) (a := 0) (c2 := hitC c (M 69 4)) hq hr (p6 0 (by decide)) hT p1 rfl p2 (fun i hi => ?_) (fun j hj => p6 j (by omega)) (fun x x1 x2 x3 x4 x5 x6 x7 x8 x9 x10 => p4 x x1 x2 x7 x8) p5 (p4 71 (by omega) (by omega) (by decide) (by decide)) _ hf
  rcases hi with rfl | rfl | rfl
  · rw [p6 1 (by decide)]; show _ = _ + (0 : Int); omega
  · rw [p6 2 (by decide)]; show _ = _ + (0 : Int); omega
  · rw [p3]; rfl
theorem x_step0 {c : Nat → Int} {q r a : Nat} {M : AM} (hI : Ic c) (h9 : c 5 ≤ 9999) (hR : Rh c q M) (hq : q + 10 < 45) (hr : r < 60) (ha : a ≤ 99) (hT : T70 M) (hk : M 46 r = 11) (h50 : M 50 r = (a : Int)) :
    ∃ N, f_X3_doStep q (r : Int) M = some (((r + 1 : Nat) : Int), N) ∧ Rh (plC c (M 69 4) 0 (a : Int)) q N ∧ N 69 4 = plZ c (M 69 4) 0 ∧ (∀ i, i < 4 → N 70 i = M 70 i + plT c (M 69 4) 0 (a : Int) i) ∧ (∀ j, 4 ≤ j → N 70 j = M 70 j) ∧ LX q M N ∧ (∀ j, j ≠ 4 → N 69 j = M 69 j) ∧ N 71 = M 71 := by
  have hc5 := hI.2.2.2.2.2.1
  have hc2 := hI.2.2.1
  have e5 : M q 5 = c 5 := (Rh_iff.mp hR).1.1.2.2.2.2.2.1
  have hT1 := hT 1 (by decide)
  have hT2 := hT 2 (by decide)
  unfold f_X3_doStep
  rw [if_pos (by omega)]
  simp only [tnc, hk, e5, h50]
  rw [if_pos trivial, o_add_eq (by omega) (by omega)]
  by_cases g : c 5 + (a : Int) ≤ 9999
  · obtain ⟨⟨v, P⟩, e, p1, p2, p3⟩ := x_pass (d := 72) (q := q) (by omega) hI (many := a) (by omega) hR
    replace p1 : v = (setB (lostB c a) (c 2).toNat : Nat) := p1
    replace p2 : Rh (dayN c a) q P := p2
    replace p3 : DE 72 q M P := p3
    have hL : setB (lostB c a) (c 2).toNat < 1024 := lt1024 (n := (c 2).toNat) (by omega) (setB_lt _ _)
    have pf : ∀ x, 45 ≤ x → x ≠ 73 → P x = M x := fun x h1 h2 => p3 x (by omega) (by omega) (by omega) (by omega) (by omega) (by omega) (by omega)
    have hlb := lostC_b c a
    rw [if_neg (by omega)]
    unfold f_X3_doStep_139
    rw [if_neg (by decide), if_pos (by omega), tnc, h50, e, bind_s, p1]
    dsimp only
    rw [x_bitCount hL, bind_s, zlet_eq, zlet_eq, tn1, tn2]
    dsimp only
    rw [am_upd_ne (show ¬ (70 = 70 ∧ 1 = 2) by decide), am_upd_cell (show ¬ 50 = 70 by decide), pf 50 (by decide) (by decide), pf 70 (by decide) (by decide), h50, o_add_eq (x := M 70 2) (by show _ ≤ _ + ((lostC c a : Nat) : Int); omega) (by show _ + ((lostC c a : Nat) : Int) < _; omega), o_add_eq (x := M 70 1) (by omega) (by omega)]
    generalize hQ : am_upd (am_upd P 70 2 (M 70 2 + ((pc (setB (lostB c a) (c 2).toNat) : Nat) : Int))) 70 1 (M 70 1 + (a : Int)) = Q
    have qc : ∀ x, x ≠ 70 → Q x = P x := fun x h => by rw [← hQ, am_upd_cell h, am_upd_cell h]
    have hf : plF c (M 69 4) 0 (a : Int) = true := by unfold plF; rw [if_pos rfl]; exact decide_eq_true g
    have := x_stepEnd (c := c) (c2 := dayN c a) (z := M 69 4) (k := 0) (a := (a : Int)) (q := q) (r := r) (M := M) (P := Q) hq hr ?_ hT (Rh_cong (fun i hi => qc _ (by omega)) p2) ?_ ?_ ?_ ?_ ?_ ?_ ?_ true hf
    · exact this
    · rw [← hQ, am_upd_ne (by omega), am_upd_ne (by omega), pf 70 (by decide) (by decide)]
    · unfold plC; rw [if_pos rfl, if_pos g, tnc]
    · rw [qc 69 (by decide), pf 69 (by decide) (by decide)]; rfl
    · intro i hi
      rcases hi with rfl | rfl | rfl
      · rw [← hQ, am_upd_self]
        unfold plT
        rw [if_neg (by decide), if_pos rfl, if_pos rfl, if_pos g]
      · rw [← hQ, am_upd_ne (by omega), am_upd_self]
        unfold plT
        rw [if_neg (by decide), if_neg (by decide), if_pos rfl, if_pos rfl, if_pos g, tnc]
        rfl
      · rw [← hQ, am_upd_ne (by omega), am_upd_ne (by omega), pf 70 (by decide) (by decide)]
        show _ = _ + (0 : Int)
        omega
    · intro j hj
      rw [← hQ, am_upd_ne (by omega), am_upd_ne (by omega), pf 70 (by decide) (by decide)]
    · intro x x1 x2 x3 x4 x5 x6 x7 x8 x9 x10
      rw [qc x x8]
      exact p3 x x1 x2 x3 x4 x5 x6 x10
    · intro j hj
      rw [qc 69 (by decide), pf 69 (by decide) (by decide)]
    · rw [qc 71 (by decide), pf 71 (by decide) (by decide)]
  · rw [if_pos (by omega)]
    unfold f_X3_doStep_139
    rw [if_pos rfl]
    have hf : plF c (M 69 4) 0 (a : Int) = false := by unfold plF; rw [if_pos rfl]; exact decide_eq_false g
    have hz1 : ∀ i, i = 1 ∨ i = 2 ∨ i = 3 → plT c (M 69 4) 0 (a : Int) i = 0 := by
      intro i hi
      rcases hi with rfl | rfl | rfl
      · unfold plT; rw [if_neg (by decide), if_pos rfl, if_pos rfl, if_neg g]
      · unfold plT; rw [if_neg (by decide), if_neg (by decide), if_pos rfl, if_pos rfl, if_neg g]
      · rfl
    exact x_stepEnd (c := c) (c2 := c) (z := M 69 4) (k := 0) (a := (a : Int)) (q := q) (r := r) (M := M) (P := M) hq hr rfl hT hR (by unfold plC; rw [if_pos rfl, if_neg g]) rfl (fun i hi => by rw [hz1 i hi]; omega) (fun _ _ => rfl) (fun x _ _ _ _ _ _ _ _ _ _ => rfl) (fun _ _ => rfl) rfl false hf
