/-! in how many DAYS first -/
def fnd (p : Nat → Bool) : Nat → Int
  | 0 => -1
  | n + 1 => if 0 ≤ fnd p n then fnd p n else if p n then (n : Int) else -1
theorem fnd_r (p : Nat → Bool) : ∀ n, fnd p n = -1 ∧ (∀ s, s < n → p s = false) ∨ 0 ≤ fnd p n
  | 0 => Or.inl ⟨rfl, fun s h => by omega⟩
  | n + 1 => by
    have ih := fnd_r p n
    unfold fnd
    rcases ih with ⟨h1, h2⟩ | h
    · rw [if_neg (by omega)]
      cases e : p n
      · left
        refine ⟨by simp, fun s hs => ?_⟩
        by_cases e2 : s = n
        · subst e2; exact e
        · exact h2 s (by omega)
      · right; simp
    · right; rw [if_pos h]; exact h
theorem fnd_stay {p : Nat → Bool} {n : Nat} (h : 0 ≤ fnd p n) : ∀ m, n ≤ m → fnd p m = fnd p n := by
  intro m
  induction m with
  | zero => intro hm; have : n = 0 := by omega
            subst this; rfl
  | succ m ih =>
    intro hm
    by_cases e : n = m + 1
    · subst e; rfl
    · have := ih (by omega)
      show (if 0 ≤ fnd p m then fnd p m else _) = _
      rw [if_pos (by omega), this]
theorem fnd_none {p : Nat → Bool} : ∀ n, (∀ s, s < n → p s = false) → fnd p n = -1
  | 0, _ => rfl
  | n + 1, h => by
    have ih := fnd_none n (fun s hs => h s (by omega))
    unfold fnd
    rw [ih, h n (by omega)]
    rfl
theorem fnd_at {p : Nat → Bool} {t : Nat} (h : ∀ s, s < t → p s = false) (ht : p t = true) {m : Nat} (hm : t < m) : fnd p m = (t : Int) := by
  have h1 : fnd p (t + 1) = (t : Int) := by
    unfold fnd
    rw [fnd_none t h, ht]
    rfl
  rw [fnd_stay (n := t + 1) (by omega) m (by omega), h1]
def pgone (c : Nat → Int) (k t : Nat) : Bool := decide (dayN c t (65 + k) = 0)
theorem a_partsIn (a1 : Int) : Alike (f_X10_partsIn a1) (f_X11_partsIn a1) := by
  refine alike_q (fun c => if 0 ≤ a1 ∧ a1 < c 2 then fnd (pgone c a1.toNat) 301 else -1) (fun c => if 0 ≤ a1 ∧ a1 < c 2 then (if 0 ≤ fnd (pgone c a1.toNat) 301 then 0 else 8) else 2) ?_ ?_
  · intro c M hI h9 hR
    have h2 := hI.2.2.1
    have h5 := hI.2.2.2.2.2.1
    have hg := (Rh_iff.mp hR).1
    unfold f_X10_partsIn
    by_cases g1 : 0 ≤ a1 ∧ a1 < c 2
    · obtain ⟨k, rfl⟩ : ∃ w : Nat, a1 = (w : Int) := ⟨a1.toNat, by omega⟩
      have hk := (Ic_k hI g1.2).2.2.2.1
      rw [xcoup_t hg g1, bind_s]
      simp only [if_pos g1, i10, not_false_eq_true, if_true, tnc]
      obtain ⟨N1, e1, h34, _, hE1⟩ := x_copyFrom (q := 34) (b := 23) (by omega) hI hR
      rw [e1, bind_s]
      have hp : ∀ t : Nat, t ≤ 300 → dayN c t (65 + k) = 0 ∨ dayN c t (65 + k) = 1 := by
        intro t ht
        rcases dayN_hold (c := c) g1.2 (by omega) t with h | h <;> omega
      have hfin : ∀ (t : Nat) (N : AM), t ≤ 300 → Rh (dayN c t) 34 N → Rh c 23 N → Qx M N → (∀ s, s < t → pgone c k s = false) → (dayN c t (65 + k) = 0 ∨ t = 300) →
          Wp (f_X10_partsIn_89 (k : Int) (t : Int) N) (fun r => r.1 = fnd (pgone c k) 301 ∧ ∃ N2, r.2 = am_upd N2 15 0 (if 0 ≤ fnd (pgone c k) 301 then 0 else 8) ∧ Qx M N2 ∧ Rh c 23 N2) := by
        intro t N ht h34 h23 hq hs hor
        have e2 : dayN c t 2 = c 2 := dayN_lo (by decide) (by omega) t
        have hIt := Ic_dayN hI t (by omega)
        unfold f_X10_partsIn_89
        rw [x_isHolding (Ib_of hIt) (Rh_iff.mp h34).1 (by rw [e2]; exact g1.2), bind_s]
        by_cases g : dayN c t (65 + k) = 0
        · have hf : fnd (pgone c k) 301 = (t : Int) := fnd_at hs (by simp [pgone, g]) (by omega)
          simp only [g, show ¬ (0 : Int) = 1 by decide, if_false, if_true, x_answer, bind_s]
          rw [hf, if_pos (by omega)]
          exact wp_some ⟨rfl, N, rfl, hq, h23⟩
        · have g1' : dayN c t (65 + k) = 1 := by rcases hp t ht with h | h <;> omega
          have ht3 : t = 300 := by rcases hor with h | h <;> omega
          have hf : fnd (pgone c k) 301 = -1 := fnd_none 301 (fun s hs2 => by
            by_cases e : s = t
            · subst e; simp [pgone, g]
            · exact hs s (by omega))
          simp only [g1', i10, if_true, if_false, x_fail, bind_s]
          rw [hf, if_neg (by omega)]
          exact wp_some ⟨rfl, N, rfl, hq, h23⟩
      have hw : Wp (f_X10_partsIn_32 zB (k : Int) 0 0 N1) (fun r => r.1 = fnd (pgone c k) 301 ∧ ∃ N2, r.2 = am_upd N2 15 0 (if 0 ≤ fnd (pgone c k) 301 then 0 else 8) ∧ Qx M N2 ∧ Rh c 23 N2) := by
        refine up_loopP0 (fun n i (s : Int × AM) => f_X10_partsIn_32 n (k : Int) s.1 (i : Int) s.2)
          (fun i s => ∃ t : Nat, s.1 = (t : Int) ∧ t ≤ 300 ∧ (i ≤ t ∨ t = 300) ∧ Rh (dayN c t) 34 s.2 ∧ Rh c 23 s.2 ∧ Qx M s.2 ∧ ∀ x, x < t → pgone c k x = false) _ 300 (0, N1) ⟨0, rfl, by omega, by omega, h34, Rh_copy hE1 hR, Qx_copy hE1, fun x h => by omega⟩ ?_ ?_ (by omega)
        · rintro n i ⟨gone, N⟩ hi ⟨t, e0, ht, hit, h34, h23, hq, hs⟩
          replace e0 : gone = (t : Int) := e0
          replace h34 : Rh (dayN c t) 34 N := h34
          replace h23 : Rh c 23 N := h23
          replace hq : Qx M N := hq
          have e2 : dayN c t 2 = c 2 := dayN_lo (by decide) (by omega) t
          have hIt := Ic_dayN hI t (by omega)
          show (∃ s2 : Int × AM, _ ∧ f_X10_partsIn_32 (n + 1) (k : Int) gone (i : Int) N = _) ∨ Wp (f_X10_partsIn_32 (n + 1) (k : Int) gone (i : Int) N) _
          simp only [f_X10_partsIn_32]
          rw [if_neg (by omega), x_isHolding (Ib_of hIt) (Rh_iff.mp h34).1 (by rw [e2]; exact g1.2), bind_s, e0]
          rcases hp t ht with g | g
          · right
            simp only [g, show ¬ (0 : Int) = 1 by decide, if_false, if_true]
            exact hfin t N ht h34 h23 hq hs (Or.inl g)
          · left
            simp only [g, i10, if_true, if_false]
            rw [o_sub_eq (by omega) (by omega)]
            have e35 : N 23 5 = c 5 := h23.1.2.2.2.2.2.1
            by_cases ht3 : t = 300
            · have e34 : N 34 5 = c 5 + 300 := by rw [h34.1.2.2.2.2.2.1, dayN_5, ht3]; rfl
              unfold f_X0_passSpan
              rw [if_neg (by omega), bind_s]
              dsimp only
              rw [e34, e35, o_sub_eq (by omega) (by omega), o_succ (by omega)]
              exact ⟨((t : Nat), N), ⟨t, rfl, ht, Or.inr ht3, h34, h23, hq, hs⟩, by show f_X10_partsIn_32 n (k : Int) (c 5 + 300 - c 5) _ N = f_X10_partsIn_32 n (k : Int) (t : Int) _ N; rw [ht3]; congr 1; omega⟩
            · obtain ⟨⟨v, N2⟩, e, s, hs1, hs2, hv, hRs, hh, hE⟩ := x_passSpan (d := 61) (q := 34) (by decide) hIt (most := 300 - (t : Int)) (by rw [dayN_5]; omega) (by omega) h34
              replace hRs : Rh (dayN (dayN c t) s) 34 N2 := hRs
              replace hE : DE 61 34 N N2 := hE
              rw [dayN_add] at hRs
              have e35' : N2 23 5 = c 5 := by rw [hE 23 (by decide) (by decide) (by decide) (by decide) (by decide) (by decide) (by decide)]; exact e35
              have e34 : N2 34 5 = c 5 + ((t + s : Nat) : Int) := by rw [hRs.1.2.2.2.2.2.1, dayN_5]
              rw [e, bind_s]
              dsimp only
              rw [e34, e35', o_sub_eq (by omega) (by omega), o_succ (by omega)]
              refine ⟨(((t + s : Nat) : Int), N2), ⟨t + s, rfl, by omega, by omega, hRs, Rh_DE34 hE h23, Qx_trans hq (Qx_DE34 hE), fun x hx => ?_⟩, ?_⟩
              · by_cases e : x < t
                · exact hs x e
                · have := hh (x - t) (by omega) k (by rw [e2]; exact g1.2)
                  rw [dayN_add] at this
                  have ex : t + (x - t) = x := by omega
                  rw [ex, g] at this
                  simp [pgone, this]
              · show f_X10_partsIn_32 n (k : Int) (c 5 + ((t + s : Nat) : Int) - c 5) _ N2 = f_X10_partsIn_32 n (k : Int) ((t + s : Nat) : Int) _ N2
                congr 1
                omega
        · rintro n ⟨gone, N⟩ ⟨t, e0, ht, hit, h34, h23, hq, hs⟩
          replace e0 : gone = (t : Int) := e0
          show Wp (f_X10_partsIn_32 (n + 1) (k : Int) gone ((300 : Nat) : Int) N) _
          simp only [f_X10_partsIn_32]
          rw [if_pos (by omega), e0]
          exact hfin t N ht h34 h23 hq hs (Or.inr (by omega))
      obtain ⟨⟨v, N'⟩, e, h1, N, hN', hq, h23⟩ := hw
      replace h1 : v = _ := h1
      replace hN' : N' = _ := hN'
      rw [e, h1, hN']
      exact x_end hq h23
    · rw [xcoup_f hg g1, bind_s]
      simp only [if_neg g1, i00, not_true_eq_false, if_false, x_fail, bind_s]
      exact x_end (Qx_refl M) hR
  · intro P hI h9
    obtain ⟨M2, hM2, e5, q2, s2, hc, hf⟩ := MS_ok P
    rw [← e5] at hI h9
    have h2 := hI.2.2.1
    unfold f_X11_partsIn
    rw [zlet_eq, zlet_eq, hM2, ← e5]
    by_cases g1 : 0 ≤ a1 ∧ a1 < M2 5 2
    · obtain ⟨k, rfl⟩ : ∃ w : Nat, a1 = (w : Int) := ⟨a1.toNat, by omega⟩
      rw [mcoup_t hI g1, bind_s]
      simp only [if_pos g1, i10, not_false_eq_true, if_true, tnc]
      obtain ⟨M3, e3, hA, h35, hE3⟩ := m_puts' M2
      rw [e3, bind_s]
      have hfin : ∀ (F : Int) (N : AM), (F = -1 ∨ 0 ≤ F) → Aside (M2 5) N → (∀ j, 83 ≤ j → N 5 j = M2 5 j) → Eo [5, 6, 9, 10] M2 N → Wp (f_X11_partsIn_68 F N) (fun r => r.1 = F ∧ Qm M2 r.2 ∧ r.2 5 = M2 5 ∧ r.2 0 0 = (if 0 ≤ F then 0 else 8)) := by
        intro F N hF h1 hhi h3
        unfold f_X11_partsIn_68
        obtain ⟨N2, e, e52, hE⟩ := m_gives' h1 hhi
        have hEo : Eo [5, 6, 9, 10] M2 N2 := Eo_trans h3 (Eo_sub hE (by simp))
        have h30 : N2 0 = M2 0 := hEo 0 (by simp)
        rw [e, bind_s]
        by_cases g : 0 ≤ F
        · rw [if_pos g, if_pos g]
          exact wp_some ⟨rfl, Eo69_Qm hEo, e52, by show N2 0 0 = 0; rw [h30]; exact s2⟩
        · have hm : F = -1 := by omega
          rw [if_neg g, if_neg g, m_refuse, bind_s]
          have z5 : am_upd N2 0 0 8 5 = M2 5 := (am_upd_cell (by decide)).trans e52
          have z0 : am_upd N2 0 0 8 0 0 = 8 := am_upd_self _ _ _ _
          exact wp_some ⟨hm.symm, Qm_trans (Eo69_Qm hEo) (Qm_st _ _), z5, z0⟩
      have hw : Wp (f_X11_partsIn_32 zB (k : Int) (-1) 0 M3) (fun r => r.1 = fnd (pgone (M2 5) k) 301 ∧ Qm M2 r.2 ∧ r.2 5 = M2 5 ∧ r.2 0 0 = (if 0 ≤ fnd (pgone (M2 5) k) 301 then 0 else 8)) := by
        refine up_loopP0 (fun m i (s : Int × AM) => f_X11_partsIn_32 m (k : Int) s.1 (i : Int) s.2) (fun i s => s.1 = fnd (pgone (M2 5) k) i ∧ Aside (M2 5) s.2 ∧ s.2 5 = dayN (M2 5) i ∧ Eo [5, 6, 9, 10] M2 s.2) _ 301 (-1, M3) ⟨rfl, hA, h35, Eo_sub hE3 (by simp)⟩ ?_ ?_ (by omega)
        · rintro m i ⟨f, N⟩ hi ⟨h0, h1, h2, h3⟩
          replace h0 : f = fnd (pgone (M2 5) k) i := h0
          replace h2 : N 5 = dayN (M2 5) i := h2
          replace h1 : Aside (M2 5) N := h1
          replace h3 : Eo [5, 6, 9, 10] M2 N := h3
          show (∃ s2 : Int × AM, _ ∧ f_X11_partsIn_32 (m + 1) (k : Int) f (i : Int) N = _) ∨ Wp (f_X11_partsIn_32 (m + 1) (k : Int) f (i : Int) N) _
          simp only [f_X11_partsIn_32]
          rw [if_neg (by omega)]
          by_cases g : 0 ≤ f
          · right
            rw [if_pos g]
            have : f = fnd (pgone (M2 5) k) 301 := by rw [h0]; exact (fnd_stay (by rw [← h0]; exact g) 301 (by omega)).symm
            rw [this]
            exact hfin _ N (by rcases fnd_r (pgone (M2 5) k) 301 with h | h; exact Or.inl h.1; exact Or.inr h) h1 (fun j hj => by rw [h2]; exact Eo5_hi hj) h3
          · left
            have hIN : Ic (N 5) := by rw [h2]; exact Ic_dayN hI i (by omega)
            obtain ⟨N2, e, e52, hE⟩ := m_goesDay hIN
            have hI3 : ∀ f2, f2 = fnd (pgone (M2 5) k) (i + 1) → (f2 = fnd (pgone (M2 5) k) (i + 1) ∧ Aside (M2 5) N2 ∧ N2 5 = dayN (M2 5) (i + 1) ∧ Eo [5, 6, 9, 10] M2 N2) := fun f2 hf2 => ⟨hf2, fun j hj => by rw [hE 6 (by simp)]; exact h1 j hj, by rw [e52, h2]; rfl, Eo_trans h3 (Eo_sub hE (by simp))⟩
            have hN65 : N 5 (65 + k) = dayN (M2 5) i (65 + k) := by rw [h2]
            unfold f_X11_partsIn_57
            simp (disch := omega) only [o_add_eq (x := 65), tp65]
            rw [if_neg g, if_pos (by omega), e, bind_s, o_succ (by omega)]
            have hff : fnd (pgone (M2 5) k) (i + 1) = if pgone (M2 5) k i then (i : Int) else -1 := by
              show (if 0 ≤ fnd (pgone (M2 5) k) i then _ else _) = _
              rw [if_neg (by omega)]
            by_cases g2 : N 5 (65 + k) = 0
            · rw [if_neg (fun h => h g2)]
              exact ⟨((i : Int), N2), hI3 _ (by rw [hff]; simp [pgone, ← hN65, g2]), rfl⟩
            · rw [if_pos g2]
              refine ⟨(f, N2), hI3 _ ?_, rfl⟩
              rcases fnd_r (pgone (M2 5) k) i with h | h
              · rw [hff, h0, h.1]; simp [pgone, ← hN65, g2]
              · omega
        · rintro m ⟨f, N⟩ ⟨h0, h1, h2, h3⟩
          replace h0 : f = fnd (pgone (M2 5) k) 301 := h0
          replace h2 : N 5 = dayN (M2 5) 301 := h2
          show Wp (f_X11_partsIn_32 (m + 1) (k : Int) f ((301 : Nat) : Int) N) _
          simp only [f_X11_partsIn_32]
          rw [if_pos (by omega), h0]
          exact hfin _ N (by rcases fnd_r (pgone (M2 5) k) 301 with h | h; exact Or.inl h.1; exact Or.inr h) h1 (fun j hj => by rw [h2]; exact Eo5_hi hj) h3
      obtain ⟨⟨v, N⟩, e, h1, h3, h4, h6⟩ := hw
      replace h1 : v = _ := h1
      rw [e, h1]
      exact m_fin (Qm_trans q2 h3) h4 h6
    · rw [mcoup_f hI g1, bind_s]
      simp only [if_neg g1, i00, not_true_eq_false, if_false, m_refuse, bind_s]
      exact m_end q2 rfl
/-! SILENT: only the wires bear upon it -/
def SW (d e : Nat → Int) : Prop := ∀ j, j = 0 ∨ j = 1 ∨ j = 2 ∨ j = 3 ∨ j = 6 ∨ 7 ≤ j ∧ j < 59 → d j = e j
theorem SW_fD {d e : Nat → Int} (h : SW d e) (h1 : e 1 ≤ 10) : fD d = fD e := fD_cong (h 0 (by omega)) (h 1 (by omega)) (fun w hw => ⟨h _ (by omega), h _ (by omega), h _ (by omega), h _ (by omega)⟩)
theorem SW_rung {d e : Nat → Int} (h : SW d e) (h1 : e 1 ≤ 10) {k : Nat} (hk : k < 6) : rungB d k = rungB e k := by
  unfold rungB FD
  rw [SW_fD h h1, h 3 (by omega), h (47 + k) (by omega), h (53 + k) (by omega)]
theorem SW_st {d e : Nat → Int} (h : SW d e) (h1 : e 1 ≤ 10) : stP d ↔ stP e := by
  unfold stP
  rw [h 1 (by omega), h 6 (by omega)]
  constructor
  · rintro ⟨w, a, b, x, y⟩
    rw [h (37 + w) (by omega)] at x
    rw [h (27 + w) (by omega)] at y
    exact ⟨w, a, b, x, y⟩
  · rintro ⟨w, a, b, x, y⟩
    exact ⟨w, a, b, by rw [h (37 + w) (by omega)]; exact x, by rw [h (27 + w) (by omega)]; exact y⟩
theorem Ic_strV {c : Nat → Int} (hI : Ic c) (i : Nat) : Ic (strV c i) := by
  obtain ⟨i0, i1, i2, i3, i4, i5, i6, i7, i8⟩ := hI
  unfold Ic
  rw [strV_ne (by omega), strV_ne (by omega), strV_ne (by omega), strV_ne (by omega), strV_ne (by omega), strV_ne (by omega), strV_ne (by omega)]
  refine ⟨i0, i1, i2, i3, i4, i5, i6, fun w hw => ?_, fun k hk => ?_⟩
  · have := i7 w hw
    rw [strV_ne (j := 7 + w) (by omega), strV_ne (j := 17 + w) (by omega), strV_ne (j := 37 + w) (by omega)]
    refine ⟨this.1, this.2.1, ?_, this.2.2.2⟩
    unfold strV
    split
    · split <;> omega
    · exact this.2.2.1
  · rw [strV_ne (j := 47 + k) (by omega), strV_ne (j := 53 + k) (by omega), strV_ne (j := 59 + k) (by omega), strV_ne (j := 65 + k) (by omega), strV_ne (j := 71 + k) (by omega), strV_ne (j := 77 + k) (by omega)]
    exact i8 k hk
theorem SW_day {d e : Nat → Int} (h : SW d e) (hI : Ic e) (h6 : e 6 = 1) : SW (strV d (e 1).toNat) (dayF e) := by
  have h1 := hI.2.1
  intro j hj
  by_cases g : 27 ≤ j ∧ j < 37
  · rw [dayF_eq (by omega)]
    unfold strV
    by_cases g2 : j - 27 < (e 1).toNat
    · have hw := Ic_w hI (w := j - 27) (by omega)
      have ej : 27 + (j - 27) = j := by omega
      have ej2 : 37 + (j - 27) = 10 + j := by omega
      rw [ej, ej2] at hw
      have h3 : 27 ≤ j ∧ j < 37 ∧ j - 27 < (e 1).toNat := ⟨g.1, g.2, g2⟩
      simp only [if_pos h3]
      rw [h j (by omega), h (10 + j) (by omega)]
      unfold dayW
      rw [ej2]
      by_cases g3 : e (10 + j) = 1
      · by_cases g4 : e j < 9
        · rw [if_pos ⟨g3, g4⟩, if_pos ⟨h6, g3⟩]; omega
        · rw [if_neg (fun h => g4 h.2), if_pos ⟨h6, g3⟩]; omega
      · rw [if_neg (fun h => g3 h.1), if_neg (fun h => g3 h.2)]
    · rw [if_neg (by omega), if_neg (by omega), if_neg (by omega)]
      exact h j (by omega)
  · rw [strV_ne (by omega), dayF_lo (by omega) (by omega)]
    exact h j hj
theorem SW_still {e : Nat → Int} (hI : Ic e) (hs : ¬ stP e) : SW (dayF e) e := by
  have h1 := hI.2.1
  intro j hj
  by_cases g : 27 ≤ j ∧ j < 37
  · rw [dayF_eq (by omega)]
    by_cases g2 : j - 27 < (e 1).toNat
    · have hw := Ic_w hI (w := j - 27) (by omega)
      have ej : 27 + (j - 27) = j := by omega
      rw [ej] at hw
      rw [if_pos ⟨g.1, g.2, g2⟩]
      unfold dayW
      by_cases g3 : e 6 = 1 ∧ e (37 + (j - 27)) = 1
      · rw [if_pos g3]
        by_cases g4 : e j < 9
        · exact absurd ⟨j - 27, by omega, g3.1, g3.2, by rw [ej]; exact g4⟩ hs
        · omega
      · rw [if_neg g3]
    · rw [if_neg (by omega), if_neg (by omega)]
  · exact dayF_lo (by omega) (by omega)
theorem SW_trans {d e f : Nat → Int} (h1 : SW d e) (h2 : SW e f) : SW d f := fun j hj => (h1 j hj).trans (h2 j hj)
theorem SW_stay {c : Nat → Int} (hI : Ic c) {g : Nat} (hs : ¬ stP (dayN c g)) : ∀ n : Nat, c 5 + ((g + n : Nat) : Int) ≤ 20000 → SW (dayN c (g + n)) (dayN c g)
  | 0, _ => fun j _ => rfl
  | n + 1, h => by
    have ih := SW_stay hI hs n (by omega)
    have hIn := Ic_dayN hI (g + n) (by omega)
    have h1 : dayN c g 1 ≤ 10 := by rw [dayN_lo (by decide) (by omega)]; exact hI.2.1.2
    exact SW_trans (SW_still hIn (fun hx => hs ((SW_st ih h1).mp hx))) ih
def psil (c : Nat → Int) (k t : Nat) : Bool := !rungB (dayN c t) k
theorem a_silentIn (a1 : Int) : Alike (f_X10_silentIn a1) (f_X11_silentIn a1) := by
  refine alike_q (fun c => if 0 ≤ a1 ∧ a1 < c 2 then fnd (psil c a1.toNat) 301 else -1) (fun c => if 0 ≤ a1 ∧ a1 < c 2 then (if 0 ≤ fnd (psil c a1.toNat) 301 then 0 else 8) else 2) ?_ ?_
  · intro c M hI h9 hR
    have h1 := hI.2.1
    have h2 := hI.2.2.1
    have h5 := hI.2.2.2.2.2.1
    have hg := (Rh_iff.mp hR).1
    unfold f_X10_silentIn
    by_cases g1 : 0 ≤ a1 ∧ a1 < c 2
    · obtain ⟨k, rfl⟩ : ∃ w : Nat, a1 = (w : Int) := ⟨a1.toNat, by omega⟩
      rw [xcoup_t hg g1, bind_s]
      simp only [if_pos g1, i10, not_false_eq_true, if_true, tnc]
      obtain ⟨N1, e1, h34, _, hE1⟩ := x_copyFrom (q := 34) (b := 23) (by omega) hI hR
      rw [e1, bind_s]
      have hHm : ∀ {d : Nat → Int} {N N2 : AM}, Hm d 34 N N2 → Qx N N2 ∧ (Rh c 23 N → Rh c 23 N2) := by
        intro d N N2 h
        refine ⟨⟨fun a ha => h.2 a (by rintro rfl; exact ha (by unfold xcell; omega)) (by rintro rfl; exact ha (by unfold xcell; omega)), fun j _ => by rw [h.2 15 (by decide) (by decide)]⟩, fun h23 => Rh_cong (fun i hi => h.2 _ (by omega) (by omega)) h23⟩
      have hfin : ∀ (t : Nat) (d : Nat → Int) (N : AM), t ≤ 300 → SW d (dayN c t) → Ic d → d 2 = c 2 → Rh d 34 N → Rh c 23 N → Qx M N → (∀ s, s < t → psil c k s = false) → (rungB d k = false ∨ t = 300 ∨ ¬ stP d) →
          Wp (f_X10_silentIn_71 (k : Int) (t : Int) N) (fun r => r.1 = fnd (psil c k) 301 ∧ ∃ N2, r.2 = am_upd N2 15 0 (if 0 ≤ fnd (psil c k) 301 then 0 else 8) ∧ Qx M N2 ∧ Rh c 23 N2) := by
        intro t d N ht hsw hId hd2 h34 h23 hq hs hor
        have et1 : dayN c t 1 ≤ 10 := by rw [dayN_lo (by decide) (by omega)]; exact h1.2
        unfold f_X10_silentIn_71
        obtain ⟨N2, e, hN2⟩ := x_isRung hId h34 (k := k) (by rw [hd2]; exact g1.2)
        have hq2 := hHm hN2
        rw [e, bind_s]
        dsimp only
        cases g : rungB d k
        · have hf : fnd (psil c k) 301 = (t : Int) := fnd_at hs (by unfold psil; rw [← SW_rung hsw et1 (by omega), g]; rfl) (by omega)
          simp only [Bool.false_eq_true, if_false, if_true, x_answer, bind_s]
          rw [hf, if_pos (by omega)]
          exact wp_some ⟨rfl, N2, rfl, Qx_trans hq hq2.1, hq2.2 h23⟩
        · have hrt : rungB (dayN c t) k = true := by rw [← SW_rung hsw et1 (by omega), g]
          have hf : fnd (psil c k) 301 = -1 := fnd_none 301 (fun s hs2 => by
            by_cases e : s < t
            · exact hs s e
            · rcases hor with h | h | h
              · rw [g] at h; cases h
              · have : s = t := by omega
                subst this; simp [psil, hrt]
              · have hst : ¬ stP (dayN c t) := fun hx => h ((SW_st hsw et1).mpr hx)
                have hsy := SW_stay hI hst (s - t) (by omega)
                have ex : t + (s - t) = s := by omega
                rw [ex] at hsy
                unfold psil
                rw [SW_rung hsy et1 (by omega), hrt]
                rfl)
          simp only [if_true, i10, if_false, x_fail, bind_s]
          rw [hf, if_neg (by omega)]
          exact wp_some ⟨rfl, N2, rfl, Qx_trans hq hq2.1, hq2.2 h23⟩
      have hw : Wp (f_X10_silentIn_30 zB (k : Int) 0 N1) (fun r => r.1 = fnd (psil c k) 301 ∧ ∃ N2, r.2 = am_upd N2 15 0 (if 0 ≤ fnd (psil c k) 301 then 0 else 8) ∧ Qx M N2 ∧ Rh c 23 N2) := by
        refine up_loopP0 (fun n i (s : AM) => f_X10_silentIn_30 n (k : Int) (i : Int) s)
          (fun i s => ∃ d, SW d (dayN c i) ∧ Ic d ∧ d 2 = c 2 ∧ Rh d 34 s ∧ Rh c 23 s ∧ Qx M s ∧ ∀ x, x < i → psil c k x = false) _ 300 N1 ⟨c, fun _ _ => rfl, hI, rfl, h34, Rh_copy hE1 hR, Qx_copy hE1, fun x h => by omega⟩ ?_ ?_ (by omega)
        · rintro n i N hi ⟨d, hsw, hId, hd2, h34, h23, hq, hs⟩
          have et1 : dayN c i 1 ≤ 10 := by rw [dayN_lo (by decide) (by omega)]; exact h1.2
          have eti : dayN c i 1 = c 1 := dayN_lo (by decide) (by omega) i
          have et6 : dayN c i 6 = c 6 := dayN_lo (by decide) (by omega) i
          show (∃ s2 : AM, _ ∧ f_X10_silentIn_30 (n + 1) (k : Int) (i : Int) N = _) ∨ Wp (f_X10_silentIn_30 (n + 1) (k : Int) (i : Int) N) _
          simp only [f_X10_silentIn_30]
          obtain ⟨N2, e, hN2⟩ := x_isRung hId h34 (k := k) (by rw [hd2]; exact g1.2)
          have hq2 := hHm hN2
          rw [if_neg (by omega), e, bind_s]
          dsimp only
          cases g : rungB d k
          · right
            simp only [Bool.false_eq_true, if_false, if_true]
            exact hfin i d N2 (by omega) hsw hId hd2 hN2.1 (hq2.2 h23) (Qx_trans hq hq2.1) hs (Or.inl g)
          · simp only [if_true, i10, if_false]
            obtain ⟨⟨v, N3⟩, e3, hN3, hv⟩ := x_isStretching (Ib_of hId) hId.2.2.2.2.2.2.1 (Rh_iff.mp hN2.1).1
            replace hN3 : N3 = N2 := hN3
            subst hN3
            rw [e3, bind_s]
            dsimp only
            rcases hv with ⟨hv, hst⟩ | ⟨hv, hst⟩
            · left
              replace hv : v = 1 := hv
              rw [hv, if_neg (by decide)]
              obtain ⟨N4, e4, hN4, hE4, _⟩ := x_stretchAll (Ib_of hId) (fun w hw => (Ic_w hId hw).2.2.1) hN2.1
              rw [e4, bind_s, o_succ (by omega)]
              have hd1 : d 1 = dayN c i 1 := hsw 1 (by omega)
              have h6 : dayN c i 6 = 1 := by rw [← hsw 6 (by omega)]; obtain ⟨w, _, h, _⟩ := hst; exact h
              have hIi := Ic_dayN hI i (by omega)
              refine ⟨N4, ⟨strV d (d 1).toNat, by rw [hd1]; exact SW_day hsw hIi h6, Ic_strV hId _, by rw [strV_ne (by omega)]; exact hd2, hN4, ?_, ?_, fun x hx => ?_⟩, rfl⟩
              · exact Rh_cong (fun j hj => hE4 _ (by omega) (by omega)) (hq2.2 h23)
              · exact Qx_trans (Qx_trans hq hq2.1) ⟨fun a ha => hE4 a (by rintro rfl; exact ha (by unfold xcell; omega)) (by rintro rfl; exact ha (by unfold xcell; omega)), fun j _ => by rw [hE4 15 (by decide) (by decide)]⟩
              · by_cases ex : x = i
                · subst ex
                  unfold psil
                  rw [← SW_rung hsw et1 (by omega), g]
                  rfl
                · exact hs x (by omega)
            · right
              replace hv : v = 0 := hv
              rw [hv, if_pos rfl]
              exact hfin i d N3 (by omega) hsw hId hd2 hN2.1 (hq2.2 h23) (Qx_trans hq hq2.1) hs (Or.inr (Or.inr hst))
        · rintro n N ⟨d, hsw, hId, hd2, h34, h23, hq, hs⟩
          show Wp (f_X10_silentIn_30 (n + 1) (k : Int) ((300 : Nat) : Int) N) _
          simp only [f_X10_silentIn_30]
          rw [if_pos (by omega)]
          exact hfin 300 d N (by omega) hsw hId hd2 h34 h23 hq hs (Or.inr (Or.inl rfl))
      obtain ⟨⟨v, N'⟩, e, h1, N, hN', hq, h23⟩ := hw
      replace h1 : v = _ := h1
      replace hN' : N' = _ := hN'
      rw [e, h1, hN']
      exact x_end hq h23
    · rw [xcoup_f hg g1, bind_s]
      simp only [if_neg g1, i00, not_true_eq_false, if_false, x_fail, bind_s]
      exact x_end (Qx_refl M) hR
  · intro P hI h9
    obtain ⟨M2, hM2, e5, q2, s2, hc, hf⟩ := MS_ok P
    rw [← e5] at hI h9
    have h2 := hI.2.2.1
    unfold f_X11_silentIn
    rw [zlet_eq, zlet_eq, hM2, ← e5]
    by_cases g1 : 0 ≤ a1 ∧ a1 < M2 5 2
    · obtain ⟨k, rfl⟩ : ∃ w : Nat, a1 = (w : Int) := ⟨a1.toNat, by omega⟩
      rw [mcoup_t hI g1, bind_s]
      simp only [if_pos g1, i10, not_false_eq_true, if_true, tnc]
      obtain ⟨M3, e3, hA, h35, hE3⟩ := m_puts' M2
      rw [e3, bind_s]
      have hfin : ∀ (F : Int) (N : AM), (F = -1 ∨ 0 ≤ F) → Aside (M2 5) N → (∀ j, 83 ≤ j → N 5 j = M2 5 j) → Eo [5, 6, 9, 10] M2 N → Wp (f_X11_silentIn_67 F N) (fun r => r.1 = F ∧ Qm M2 r.2 ∧ r.2 5 = M2 5 ∧ r.2 0 0 = (if 0 ≤ F then 0 else 8)) := by
        intro F N hF h1 hhi h3
        unfold f_X11_silentIn_67
        obtain ⟨N2, e, e52, hE⟩ := m_gives' h1 hhi
        have hEo : Eo [5, 6, 9, 10] M2 N2 := Eo_trans h3 (Eo_sub hE (by simp))
        have h30 : N2 0 = M2 0 := hEo 0 (by simp)
        rw [e, bind_s]
        by_cases g : 0 ≤ F
        · rw [if_pos g, if_pos g]
          exact wp_some ⟨rfl, Eo69_Qm hEo, e52, by show N2 0 0 = 0; rw [h30]; exact s2⟩
        · have hm : F = -1 := by omega
          rw [if_neg g, if_neg g, m_refuse, bind_s]
          have z5 : am_upd N2 0 0 8 5 = M2 5 := (am_upd_cell (by decide)).trans e52
          have z0 : am_upd N2 0 0 8 0 0 = 8 := am_upd_self _ _ _ _
          exact wp_some ⟨hm.symm, Qm_trans (Eo69_Qm hEo) (Qm_st _ _), z5, z0⟩
      have hw : Wp (f_X11_silentIn_32 zB (k : Int) (-1) 0 M3) (fun r => r.1 = fnd (psil (M2 5) k) 301 ∧ Qm M2 r.2 ∧ r.2 5 = M2 5 ∧ r.2 0 0 = (if 0 ≤ fnd (psil (M2 5) k) 301 then 0 else 8)) := by
        refine up_loopP0 (fun m i (s : Int × AM) => f_X11_silentIn_32 m (k : Int) s.1 (i : Int) s.2) (fun i s => s.1 = fnd (psil (M2 5) k) i ∧ Aside (M2 5) s.2 ∧ s.2 5 = dayN (M2 5) i ∧ Eo [5, 6, 9, 10] M2 s.2) _ 301 (-1, M3) ⟨rfl, hA, h35, Eo_sub hE3 (by simp)⟩ ?_ ?_ (by omega)
        · rintro m i ⟨f, N⟩ hi ⟨h0, h1, h2, h3⟩
          replace h0 : f = fnd (psil (M2 5) k) i := h0
          replace h2 : N 5 = dayN (M2 5) i := h2
          replace h1 : Aside (M2 5) N := h1
          replace h3 : Eo [5, 6, 9, 10] M2 N := h3
          show (∃ s2 : Int × AM, _ ∧ f_X11_silentIn_32 (m + 1) (k : Int) f (i : Int) N = _) ∨ Wp (f_X11_silentIn_32 (m + 1) (k : Int) f (i : Int) N) _
          simp only [f_X11_silentIn_32]
          rw [if_neg (by omega)]
          by_cases g : 0 ≤ f
          · right
            rw [if_pos g]
            have : f = fnd (psil (M2 5) k) 301 := by rw [h0]; exact (fnd_stay (by rw [← h0]; exact g) 301 (by omega)).symm
            rw [this]
            exact hfin _ N (by rcases fnd_r (psil (M2 5) k) 301 with h | h; exact Or.inl h.1; exact Or.inr h) h1 (fun j hj => by rw [h2]; exact Eo5_hi hj) h3
          · left
            have hIN : Ic (N 5) := by rw [h2]; exact Ic_dayN hI i (by omega)
            have hI2 : N 5 2 = M2 5 2 := by rw [h2]; exact dayN_lo (by decide) (by omega) i
            have hILF : Ic (LF N 5) := by rw [LF5]; exact hIN
            obtain ⟨N2, e, e52, hE⟩ := m_goesDay hILF
            rw [LF5] at e52
            have hI3 : ∀ f2, f2 = fnd (psil (M2 5) k) (i + 1) → (f2 = fnd (psil (M2 5) k) (i + 1) ∧ Aside (M2 5) N2 ∧ N2 5 = dayN (M2 5) (i + 1) ∧ Eo [5, 6, 9, 10] M2 N2) := fun f2 hf2 => ⟨hf2, fun j hj => by rw [hE 6 (by simp), LF_ne (by decide)]; exact h1 j hj, by rw [e52, h2]; rfl, Eo_trans (Eo_trans h3 (Eo_sub (LF_Eo N) (by simp))) (Eo_sub hE (by simp))⟩
            have hr : rungN (N 5) < 2 ^ 10 := setB_le _ (by omega)
            have hb : (rungN (N 5)).testBit k = rungB (dayN (M2 5) i) k := by
              unfold rungN
              rw [setB_bit, hI2, h2]
              have : k < (M2 5 2).toNat := by omega
              simp [this]
            unfold f_X11_silentIn_56
            rw [if_neg g, m_rung hIN, bind_s]
            dsimp only
            rw [m_has (by omega) (by omega), bind_s, hb]
            dsimp only
            rw [e, bind_s, o_succ (by omega)]
            have hff : fnd (psil (M2 5) k) (i + 1) = if psil (M2 5) k i then (i : Int) else -1 := by
              show (if 0 ≤ fnd (psil (M2 5) k) i then _ else _) = _
              rw [if_neg (by omega)]
            cases g2 : rungB (dayN (M2 5) i) k
            · simp only [Bool.false_eq_true, if_false, not_true_eq_false]
              exact ⟨((i : Int), N2), hI3 _ (by rw [hff]; simp [psil, g2]), rfl⟩
            · simp only [if_true, i10, not_false_eq_true]
              refine ⟨(f, N2), hI3 _ ?_, rfl⟩
              rcases fnd_r (psil (M2 5) k) i with h | h
              · rw [hff, h0, h.1]; simp [psil, g2]
              · omega
        · rintro m ⟨f, N⟩ ⟨h0, h1, h2, h3⟩
          replace h0 : f = fnd (psil (M2 5) k) 301 := h0
          replace h2 : N 5 = dayN (M2 5) 301 := h2
          show Wp (f_X11_silentIn_32 (m + 1) (k : Int) f ((301 : Nat) : Int) N) _
          simp only [f_X11_silentIn_32]
          rw [if_pos (by omega), h0]
          exact hfin _ N (by rcases fnd_r (psil (M2 5) k) 301 with h | h; exact Or.inl h.1; exact Or.inr h) h1 (fun j hj => by rw [h2]; exact Eo5_hi hj) h3
      obtain ⟨⟨v, N⟩, e, h1, h3, h4, h6⟩ := hw
      replace h1 : v = _ := h1
      rw [e, h1]
      exact m_fin (Qm_trans q2 h3) h4 h6
    · rw [mcoup_f hI g1, bind_s]
      simp only [if_neg g1, i00, not_true_eq_false, if_false, m_refuse, bind_s]
      exact m_end q2 rfl
