/-! WAY -/
def jnb (c : Nat → Int) (w p r : Nat) : Bool := decide (c (37 + w) = 1 ∧ (c (7 + w) = (p : Int) ∧ c (17 + w) = (r : Int) ∨ c (7 + w) = (r : Int) ∧ c (17 + w) = (p : Int)))
def nxL (c : Nat → Int) (p q r : Nat) : Nat → Bool
  | 0 => false
  | w + 1 => nxL c p q r w || (jnb c w p r && decide (1 + c (27 + w) + fD c r q = fD c p q))
def nxB (c : Nat → Int) (p q r : Nat) : Bool := nxL c p q r (c 1).toNat
theorem nxL_iff {c : Nat → Int} {p q r : Nat} : ∀ n, nxL c p q r n = true ↔ ∃ w, w < n ∧ jnb c w p r = true ∧ 1 + c (27 + w) + fD c r q = fD c p q
  | 0 => by simp [nxL]
  | n + 1 => by
    unfold nxL
    rw [Bool.or_eq_true, nxL_iff n, Bool.and_eq_true]
    constructor
    · rintro (⟨w, h1, h2⟩ | ⟨h1, h2⟩)
      · exact ⟨w, by omega, h2⟩
      · exact ⟨n, by omega, h1, of_decide_eq_true h2⟩
    · rintro ⟨w, h1, h2, h3⟩
      by_cases e : w = n
      · subst e; exact Or.inr ⟨h2, decide_eq_true h3⟩
      · exact Or.inl ⟨w, by omega, h2, h3⟩
theorem jnb_iff {c : Nat → Int} {w p r : Nat} (hw : (w : Int) < c 1) : jnb c w p r = true ↔ jn c w p r := by
  unfold jnb jn
  rw [decide_eq_true_iff]
  constructor
  · intro h; exact ⟨hw, h⟩
  · intro h; exact h.2
/-- the next ROOM -/
def nxF (c : Nat → Int) (p q : Nat) : Int := fnd (nxB c p q) (c 0).toNat
theorem fnd_true {p : Nat → Bool} : ∀ n, 0 ≤ fnd p n → ∃ t : Nat, fnd p n = (t : Int) ∧ t < n ∧ p t = true
  | 0, h => by have e : fnd p 0 = -1 := rfl; omega
  | n + 1, h => by
    unfold fnd at h ⊢
    by_cases g : 0 ≤ fnd p n
    · rw [if_pos g]
      obtain ⟨t, h1, h2, h3⟩ := fnd_true n g
      exact ⟨t, h1, by omega, h3⟩
    · rw [if_neg g] at h ⊢
      cases e : p n
      · rw [e] at h; simp at h
      · exact ⟨n, by simp, by omega, e⟩
theorem nxF_ex {c : Nat → Int} (hI : Ic c) {p q : Nat} (hp : p < (c 0).toNat) (hq : q < (c 0).toNat) (hne : p ≠ q) (hlt : fD c p q < 1000) : ∃ r : Nat, nxF c p q = (r : Int) ∧ r < (c 0).toNat ∧ fD c r q < fD c p q := by
  obtain ⟨w, u, hj, he⟩ := fD_pred hI hq hp (fun h => hne h.symm) (by rw [fD_s hI]; exact hlt)
  have hl := jn_lt hI hj
  have hj2 := jn_comm hj
  have hb : nxB c p q u = true := by
    refine (nxL_iff _).mpr ⟨w, by have := hj.1; omega, (jnb_iff hj.1).mpr hj2, ?_⟩
    rw [fD_s hI q p, fD_s hI q u] at he
    omega
  have h0 : 0 ≤ nxF c p q := by
    rcases fnd_r (nxB c p q) (c 0).toNat with ⟨_, h⟩ | h
    · rw [h u hl.1] at hb; cases hb
    · exact h
  obtain ⟨r, h1, h2, h3⟩ := fnd_true _ h0
  refine ⟨r, h1, h2, ?_⟩
  obtain ⟨x, hx1, hx2, hx3⟩ := (nxL_iff _).mp h3
  have hIw := Ic_w hI (w := x) (by omega)
  omega
def wayF (c : Nat → Int) (q : Nat) : Nat → Nat → Int
  | 0, p => (p : Int)
  | k + 1, p => if p = q then -1 else wayF c q k (nxF c p q).toNat
def wcnt (c : Nat → Int) (q p : Nat) : Nat := cntB (fun r => decide (fD c r q < fD c p q)) (c 0).toNat
theorem wcnt_next {c : Nat → Int} {q p r : Nat} (hr : r < (c 0).toNat) (h : fD c r q < fD c p q) : wcnt c q r < wcnt c q p := by
  refine cntB_lt _ hr (decide_eq_true h) (decide_eq_false (by omega)) (fun i _ hi => ?_)
  have := of_decide_eq_true hi
  exact decide_eq_true (by omega)
theorem way_long {c : Nat → Int} (hI : Ic c) {q : Nat} (hq : q < (c 0).toNat) : ∀ (k p : Nat), p < (c 0).toNat → fD c p q < 1000 → wcnt c q p < k → wayF c q k p = -1
  | 0, p, _, _, h => by omega
  | k + 1, p, hp, hlt, h => by
    unfold wayF
    by_cases e : p = q
    · rw [if_pos e]
    · rw [if_neg e]
      obtain ⟨r, h1, h2, h3⟩ := nxF_ex hI hp hq e hlt
      rw [h1, tnc]
      have := wcnt_next h2 h3
      exact way_long hI hq k r h2 (by omega) (by omega)
theorem wcnt_b {c : Nat → Int} (hI : Ic c) {q p : Nat} (hp : p < (c 0).toNat) : wcnt c q p < 8 := by
  have h0 := hI.1
  have h1 : wcnt c q p < cntB (fun _ => true) (c 0).toNat := cntB_lt _ hp rfl (decide_eq_false (by omega)) (fun _ _ _ => rfl)
  have h2 := cntB_le (fun _ => true) (c 0).toNat
  omega
/-! the model -/
theorem m_joins {c : Nat → Int} {M : AM} (hI : Ic c) (h5 : M 5 = c) {w p r : Nat} (hw : (w : Int) < c 1) : f_X11_joins (w : Int) (p : Int) (r : Int) M = some (if jnb c w p r then 1 else 0, M) := by
  have h1 := hI.2.1
  unfold f_X11_joins f_X11_joins_39
  simp (disch := omega) only [o_add_eq, tp37, tp7, tp17, h5]
  have d37 : (0 : Int) ≤ 37 + (w : Int) ∧ 37 + (w : Int) < 1775 := by omega
  have d7 : (0 : Int) ≤ 7 + (w : Int) ∧ 7 + (w : Int) < 1775 := by omega
  have d17 : (0 : Int) ≤ 17 + (w : Int) ∧ 17 + (w : Int) < 1775 := by omega
  simp only [if_pos d37, if_pos d7, if_pos d17]
  unfold jnb
  by_cases g : c (37 + w) = 1
  · by_cases g1 : c (7 + w) = (p : Int)
    · by_cases g2 : c (17 + w) = (r : Int)
      · simp [g, g1, g2]
      · by_cases g3 : c (7 + w) = (r : Int)
        · by_cases g4 : c (17 + w) = (p : Int)
          · have e1 : p = r := by omega
            subst e1
            exact absurd g4 g2
          · have e1 : p = r := by omega
            subst e1
            simp [g, g1, g2]
        · have e1 : ¬ (p : Int) = (r : Int) := fun h => g3 (by omega)
          have e2 : ¬ p = r := fun h => e1 (by omega)
          simp [g, g1, g2, e2, e1]
    · by_cases g3 : c (7 + w) = (r : Int)
      · by_cases g4 : c (17 + w) = (p : Int)
        · have e2 : ¬ r = p := fun h => g1 (by omega)
          have e1 : ¬ (r : Int) = (p : Int) := fun h => g1 (by omega)
          simp [g, g3, g4, e2, e1]
        · have e2 : ¬ r = p := fun h => g1 (by omega)
          have e1 : ¬ (r : Int) = (p : Int) := fun h => g1 (by omega)
          simp [g, g3, g4, e2, e1]
      · simp [g, g1, g3]
  · simp [g]
theorem m_nextOn {c : Nat → Int} {M : AM} (hI : Ic c) (h5 : M 5 = c) (hL : Lf c M) {p q : Nat} (hp : p < (c 0).toNat) (hq : q < (c 0).toNat) : f_X11_nextOn (p : Int) (q : Int) M = some (nxF c p q, M) := by
  have h0 := hI.1
  have h1 := hI.2.1
  have hw : Wp (f_X11_nextOn_2 zB (p : Int) (q : Int) 0 M) (fun r => r = (nxF c p q, M)) := by
    refine up_loopP0 (fun n i (s : Unit) => f_X11_nextOn_2 n (p : Int) (q : Int) (i : Int) M) (fun i _ => ∀ s, s < i → nxB c p q s = false) _ (c 0).toNat () (fun s h => by omega) ?_ ?_ (by omega)
    · intro n i u hi hinv
      show (∃ s2 : Unit, _ ∧ f_X11_nextOn_2 (n + 1) (p : Int) (q : Int) (i : Int) M = f_X11_nextOn_2 n (p : Int) (q : Int) ((i + 1 : Nat) : Int) M) ∨ Wp (f_X11_nextOn_2 (n + 1) (p : Int) (q : Int) (i : Int) M) _
      simp only [f_X11_nextOn_2, h5, tn0]
      rw [if_neg (by omega)]
      refine up_loopE0 (fun m j (s : Unit) => f_X11_nextOn_15 (f_X11_nextOn_2 n) m (p : Int) (q : Int) (i : Int) (j : Int) M) (fun j _ => nxL c p q i j = false)
        (fun o => (∃ s2 : Unit, (∀ s, s < i + 1 → nxB c p q s = false) ∧ o = f_X11_nextOn_2 n (p : Int) (q : Int) ((i + 1 : Nat) : Int) M) ∨ Wp o (fun r => r = (nxF c p q, M))) (c 1).toNat () rfl ?_ ?_ (by omega)
      · intro m j u hj hinv2
        have hIw := Ic_w hI (w := j) (by omega)
        show (∃ s2 : Unit, _ ∧ f_X11_nextOn_15 (f_X11_nextOn_2 n) (m + 1) (p : Int) (q : Int) (i : Int) (j : Int) M = f_X11_nextOn_15 (f_X11_nextOn_2 n) m (p : Int) (q : Int) (i : Int) ((j + 1 : Nat) : Int) M) ∨ ((∃ s2 : Unit, _ ∧ f_X11_nextOn_15 (f_X11_nextOn_2 n) (m + 1) (p : Int) (q : Int) (i : Int) (j : Int) M = f_X11_nextOn_2 n (p : Int) (q : Int) ((i + 1 : Nat) : Int) M) ∨ Wp (f_X11_nextOn_15 (f_X11_nextOn_2 n) (m + 1) (p : Int) (q : Int) (i : Int) (j : Int) M) _)
        simp only [f_X11_nextOn_15, h5, tn1]
        rw [if_neg (by omega), m_joins hI h5 (by omega), bind_s]
        dsimp only
        cases hjb : jnb c j p i
        · left
          simp only [Bool.false_eq_true, if_false, if_true]
          exact ⟨(), by simp [nxL, hinv2, hjb], by rw [o_succ (by omega)]⟩
        · simp only [if_true, i10, if_false]
          simp (disch := omega) only [o_add_eq (x := 27), tp27]
          have b1 := fD_b hI i q
          have b2 := fD_b hI p q
          rw [if_pos (by omega), m_farOf hL (by omega) (by omega), bind_s]
          dsimp only
          rw [m_farOf hL (by omega) (by omega), bind_s, h5]
          dsimp only
          have eF1 : FD c (i : Int) (q : Int) = fD c i q := by unfold FD; rw [tnc, tnc]
          have eF2 : FD c (p : Int) (q : Int) = fD c p q := by unfold FD; rw [tnc, tnc]
          rw [eF1, eF2, o_add_eq (x := 1) (by omega) (by omega), o_add_eq (by omega) (by omega)]
          by_cases g : 1 + c (27 + j) + fD c i q = fD c p q
          · right
            right
            rw [if_neg (fun h => h g)]
            refine wp_some ?_
            have hb : nxB c p q i = true := (nxL_iff _).mpr ⟨j, hj, hjb, g⟩
            have : nxF c p q = (i : Int) := fnd_at hinv hb hi
            rw [this]
          · left
            rw [if_pos g]
            exact ⟨(), by simp [nxL, hinv2, hjb, g], by rw [o_succ (by omega)]⟩
      · intro m u hinv2
        left
        show ∃ s2 : Unit, _ ∧ f_X11_nextOn_15 (f_X11_nextOn_2 n) (m + 1) (p : Int) (q : Int) (i : Int) (((c 1).toNat : Nat) : Int) M = f_X11_nextOn_2 n (p : Int) (q : Int) ((i + 1 : Nat) : Int) M
        simp only [f_X11_nextOn_15, h5, tn1]
        rw [if_pos (by omega), o_succ (by omega)]
        refine ⟨(), fun s hs => ?_, rfl⟩
        by_cases e : s = i
        · subst e; exact hinv2
        · exact hinv s (by omega)
    · intro n u hinv
      show Wp (f_X11_nextOn_2 (n + 1) (p : Int) (q : Int) (((c 0).toNat : Nat) : Int) M) _
      simp only [f_X11_nextOn_2, h5, tn0]
      rw [if_pos (by omega)]
      exact wp_some (by rw [show nxF c p q = -1 from fnd_none _ hinv])
  obtain ⟨r, e, hr⟩ := hw
  unfold f_X11_nextOn
  rw [e, hr]
/-! the class -/
def lstW (c : Nat → Int) (p r n : Nat) : Int := rg n (fun (l : Int) w => if jnb c w p r then min l (1 + c (27 + w)) else l) 1000
theorem x_shortest {c : Nat → Int} {q0 : Nat} {M : AM} (hI : Ic c) (hR : Rg c q0 M) {p r : Nat} : f_X1_shortestWire q0 (p : Int) (r : Int) M = some (lstW c p r (c 1).toNat, M) := by
  have h1 := hI.2.1
  unfold f_X1_shortestWire
  refine up_loop0 (fun n i (s : Int) => f_X1_shortestWire_7 n q0 (p : Int) (r : Int) s (i : Int) M) (fun i => lstW c p r i) (c 1).toNat _ 1000 rfl ?_ ?_ (by omega)
  · intro n i hi
    obtain ⟨w1, w2, w3⟩ := hR.2.1 i (by omega)
    have hIw := Ic_w hI (w := i) (by omega)
    have hstep : lstW c p r (i + 1) = if jnb c i p r then min (lstW c p r i) (1 + c (27 + i)) else lstW c p r i := by unfold lstW; rw [rg_succ]
    have h65 : ∀ s0 : Int, (s0 = 0 ∨ s0 = 1) → (jnb c i p r = true ↔ (s0 = 1 ∧ c (37 + i) = 1)) → f_X1_shortestWire_65 (f_X1_shortestWire_7 n) q0 (p : Int) (r : Int) (lstW c p r i) (i : Int) s0 M = f_X1_shortestWire_7 n q0 (p : Int) (r : Int) (lstW c p r (i + 1)) ((i + 1 : Nat) : Int) M := by
      intro s0 hs0 hiff
      unfold f_X1_shortestWire_65
      rw [hstep]
      rcases hs0 with rfl | rfl
      · have : jnb c i p r = false := by
          cases h : jnb c i p r
          · rfl
          · exact absurd (hiff.mp h).1 (by decide)
        rw [if_pos rfl, this, o_succ (by omega)]
        simp
      · rw [if_neg (by decide), x_isWhole (Ib_of hI) hR (by omega), bind_s]
        by_cases g : c (37 + i) = 1
        · have hj : jnb c i p r = true := hiff.mpr ⟨rfl, g⟩
          simp only [if_pos g, i10, if_false]
          rw [if_pos (by omega), tnc, w3, o_add_eq (x := 1) (by omega) (by omega), o_min_eq, o_succ (by omega), hj]
          simp
        · have hj : jnb c i p r = false := by
            cases h : jnb c i p r
            · rfl
            · exact absurd (hiff.mp h).2 g
          simp only [if_neg g, if_true]
          rw [hj, o_succ (by omega)]
          simp
    simp only [f_X1_shortestWire_7, tnc, w1, w2]
    rw [hR.1.2.2.2.1, if_neg (by omega), if_pos (by omega)]
    unfold f_X1_shortestWire_38
    simp only [tnc, w1, w2]
    have dd : 0 ≤ (i : Int) ∧ (i : Int) < 10 := by omega
    simp only [if_pos dd]
    have hj0 : jnb c i p r = true ↔ (c (37 + i) = 1 ∧ (c (7 + i) = (p : Int) ∧ c (17 + i) = (r : Int) ∨ c (7 + i) = (r : Int) ∧ c (17 + i) = (p : Int))) := by unfold jnb; exact decide_eq_true_iff
    by_cases g1 : c (7 + i) = (p : Int) ∧ c (17 + i) = (r : Int)
    · rw [if_neg (fun h => h g1.1), if_pos g1.2]
      exact h65 1 (Or.inr rfl) (by rw [hj0]; exact ⟨fun h => ⟨rfl, h.1⟩, fun h => ⟨h.2, Or.inl g1⟩⟩)
    · have h38 : (if ¬ c (7 + i) = (r : Int) then f_X1_shortestWire_65 (f_X1_shortestWire_7 n) q0 (p : Int) (r : Int) (lstW c p r i) (i : Int) 0 M else if ¬ c (17 + i) = (p : Int) then f_X1_shortestWire_65 (f_X1_shortestWire_7 n) q0 (p : Int) (r : Int) (lstW c p r i) (i : Int) 0 M else f_X1_shortestWire_65 (f_X1_shortestWire_7 n) q0 (p : Int) (r : Int) (lstW c p r i) (i : Int) 1 M) = f_X1_shortestWire_7 n q0 (p : Int) (r : Int) (lstW c p r (i + 1)) ((i + 1 : Nat) : Int) M := by
        by_cases g2 : c (7 + i) = (r : Int) ∧ c (17 + i) = (p : Int)
        · rw [if_neg (fun h => h g2.1), if_neg (fun h => h g2.2)]
          exact h65 1 (Or.inr rfl) (by rw [hj0]; exact ⟨fun h => ⟨rfl, h.1⟩, fun h => ⟨h.2, Or.inr g2⟩⟩)
        · have hz := h65 0 (Or.inl rfl) (by rw [hj0]; exact ⟨fun h => by rcases h.2 with h | h; exact absurd h g1; exact absurd h g2, fun h => absurd h.1 (by decide)⟩)
          by_cases g3 : c (7 + i) = (r : Int)
          · rw [if_neg (fun h => h g3), if_pos (fun h => g2 ⟨g3, h⟩)]; exact hz
          · rw [if_pos g3]; exact hz
      by_cases g4 : c (7 + i) = (p : Int)
      · rw [if_neg (fun h => h g4), if_neg (fun h => g1 ⟨g4, h⟩)]; exact h38
      · rw [if_pos g4]; exact h38
  · intro n
    simp only [f_X1_shortestWire_7]
    rw [hR.1.2.2.2.1, if_pos (by omega)]
theorem lstW_inv {c : Nat → Int} (hI : Ic c) {p r : Nat} : ∀ n, n ≤ (c 1).toNat → (∀ w, w < n → jnb c w p r = true → lstW c p r n ≤ 1 + c (27 + w)) ∧ (lstW c p r n = 1000 ∨ ∃ w, w < n ∧ jnb c w p r = true ∧ lstW c p r n = 1 + c (27 + w)) := by
  intro n
  induction n with
  | zero => intro _; exact ⟨fun w h => by omega, Or.inl rfl⟩
  | succ n ih =>
    intro hn
    obtain ⟨h1, h2⟩ := ih (by omega)
    have hIw := Ic_w hI (w := n) (by omega)
    have hstep : lstW c p r (n + 1) = if jnb c n p r then min (lstW c p r n) (1 + c (27 + n)) else lstW c p r n := by unfold lstW; rw [rg_succ]
    rw [hstep]
    cases hj : jnb c n p r
    · simp only [Bool.false_eq_true, if_false]
      refine ⟨fun w hw hjw => ?_, ?_⟩
      · by_cases e : w = n
        · subst e; rw [hj] at hjw; cases hjw
        · exact h1 w (by omega) hjw
      · rcases h2 with h | ⟨w, hw, h⟩
        · exact Or.inl h
        · exact Or.inr ⟨w, by omega, h⟩
    · simp only [if_true]
      refine ⟨fun w hw hjw => ?_, ?_⟩
      · by_cases e : w = n
        · subst e; exact Int.min_le_right _ _
        · have := h1 w (by omega) hjw
          exact Int.le_trans (Int.min_le_left _ _) this
      · by_cases g : lstW c p r n ≤ 1 + c (27 + n)
        · rw [Int.min_eq_left g]
          rcases h2 with h | ⟨w, hw, h⟩
          · exact Or.inl h
          · exact Or.inr ⟨w, by omega, h⟩
        · rw [Int.min_eq_right (by omega)]
          exact Or.inr ⟨n, by omega, hj, rfl⟩
theorem nxB_class {c : Nat → Int} (hI : Ic c) {p q r : Nat} (hp : p < (c 0).toNat) (hq : q < (c 0).toNat) (hr : r < (c 0).toNat) : nxB c p q r = true ↔ (lstW c p r (c 1).toNat < 1000 ∧ lstW c p r (c 1).toNat + fD c r q = fD c p q) := by
  obtain ⟨h1, h2⟩ := lstW_inv hI (p := p) (r := r) (c 1).toNat (Nat.le_refl _)
  unfold nxB
  rw [nxL_iff]
  constructor
  · rintro ⟨w, hw, hj, he⟩
    have hIw := Ic_w hI (w := w) (by omega)
    have a1 := h1 w hw hj
    rcases h2 with h | ⟨x, hx, hjx, hex⟩
    · omega
    · have hjn := (jnb_iff (by omega)).mp hjx
      have t1 := fD_tri hI hr hp hq
      have t2 := fD_jn hI hjn
      omega
  · rintro ⟨h3, h4⟩
    rcases h2 with h | ⟨x, hx, hjx, hex⟩
    · omega
    · exact ⟨x, hx, hjx, by omega⟩
theorem x_nextOnWay {c : Nat → Int} {M : AM} (hI : Ic c) (hR : Rh c 23 M) {p q : Nat} (hp : p < (c 0).toNat) (hq : q < (c 0).toNat) (h0n : 0 ≤ nxF c p q) : Wp (f_X1_nextOnWay 23 (p : Int) (q : Int) M) (fun r => r.1 = nxF c p q ∧ Hm c 23 M r.2) := by
  have h0 := hI.1
  have h1 := hI.2.1
  unfold f_X1_nextOnWay
  refine up_loopP0 (fun n i (s : AM) => f_X1_nextOnWay_2 n 23 (p : Int) (q : Int) (i : Int) s) (fun i s => (∀ x, x < i → nxB c p q x = false) ∧ Hm c 23 M s) _ (c 0).toNat M ⟨fun x h => by omega, Hm_refl hR⟩ ?_ ?_ (by omega)
  · rintro n i N hi ⟨hinv, hN⟩
    have hgN := (Rh_iff.mp hN.1).1
    have e2 : N 23 2 = c 0 := hgN.1.2.2.1
    have hcl := nxB_class hI hp hq hi
    have hnext : nxB c p q i = false → ∀ N2, Hm c 23 N N2 → ∃ s2 : AM, ((∀ x, x < i + 1 → nxB c p q x = false) ∧ Hm c 23 M s2) ∧ f_X1_nextOnWay_2 n 23 (p : Int) (q : Int) (o_add (i : Int) 1) N2 = f_X1_nextOnWay_2 n 23 (p : Int) (q : Int) ((i + 1 : Nat) : Int) s2 := by
      intro hb N2 hN2
      refine ⟨N2, ⟨fun x hx => ?_, Hm_trans hN hN2⟩, by rw [o_succ (by omega)]⟩
      by_cases e : x = i
      · subst e; exact hb
      · exact hinv x (by omega)
    show (∃ s2 : AM, _ ∧ f_X1_nextOnWay_2 (n + 1) 23 (p : Int) (q : Int) (i : Int) N = _) ∨ Wp (f_X1_nextOnWay_2 (n + 1) 23 (p : Int) (q : Int) (i : Int) N) _
    simp only [f_X1_nextOnWay_2]
    rw [if_neg (by omega), x_shortest hI hgN, bind_s]
    dsimp only
    by_cases g : 1000 ≤ lstW c p i (c 1).toNat
    · left
      rw [if_pos g]
      refine hnext ?_ N (Hm_refl hN.1)
      cases h : nxB c p q i
      · rfl
      · have := (hcl.mp h).1; omega
    · obtain ⟨N2, e3, hN2⟩ := x_distance hI hN.1 (x := (i : Int)) (y := (q : Int)) ⟨by omega, by omega⟩ ⟨by omega, by omega⟩
      obtain ⟨N3, e4, hN3⟩ := x_distance hI hN2.1 (x := (p : Int)) (y := (q : Int)) ⟨by omega, by omega⟩ ⟨by omega, by omega⟩
      have eF1 : FD c (i : Int) (q : Int) = fD c i q := by unfold FD; rw [tnc, tnc]
      have eF2 : FD c (p : Int) (q : Int) = fD c p q := by unfold FD; rw [tnc, tnc]
      have b1 := fD_b hI i q
      have b3 : -1000000 ≤ lstW c p i (c 1).toNat := by
        obtain ⟨_, h⟩ := lstW_inv hI (p := p) (r := i) (c 1).toNat (Nat.le_refl _)
        rcases h with h | ⟨x, hx, _, h⟩
        · omega
        · have := Ic_w hI (w := x) (by omega)
          omega
      rw [if_neg g, e3, bind_s]
      dsimp only
      rw [e4, bind_s]
      dsimp only
      rw [eF1, eF2, o_add_eq (by omega) (by omega)]
      by_cases g2 : lstW c p i (c 1).toNat + fD c i q = fD c p q
      · right
        have hb : nxB c p q i = true := hcl.mpr ⟨by omega, g2⟩
        have hf : nxF c p q = (i : Int) := fnd_at hinv hb hi
        rw [if_neg (fun h => h g2), hf]
        exact wp_some ⟨rfl, Hm_trans hN (Hm_trans hN2 hN3)⟩
      · left
        rw [if_pos g2]
        refine hnext ?_ N3 (Hm_trans hN2 hN3)
        cases h : nxB c p q i
        · rfl
        · exact absurd (hcl.mp h).2 g2
  · rintro n N ⟨hinv, hN⟩
    exfalso
    have : nxF c p q = -1 := fnd_none _ hinv
    omega
