/-! the class's Wiring: sets of wires -/
theorem up_loopE0 {S R : Type} (F : Nat → Nat → S → Option R) (I : Nat → S → Prop) (E : Option R → Prop) (m : Nat) (s0 : S) (h0 : I 0 s0)
    (hs : ∀ n i s, i < m → I i s → (∃ s2, I (i + 1) s2 ∧ F (n + 1) i s = F n (i + 1) s2) ∨ E (F (n + 1) i s))
    (he : ∀ n s, I m s → E (F (n + 1) m s)) (hm : m < 1000000) : E (F zB 0 s0) := by
  have key : ∀ n i s, i ≤ m → m - i < n → I i s → E (F n i s) := by
    intro n
    induction n with
    | zero => intro i s _ h; omega
    | succ n ih =>
      intro i s hi h hI
      by_cases e : i = m
      · subst e; exact he n s hI
      · rcases hs n i s (by omega) hI with ⟨s2, h2, e2⟩ | h2
        · rw [e2]
          exact ih (i + 1) s2 (by omega) (by omega) h2
        · exact h2
  exact key zB 0 s0 (Nat.zero_le _) (by unfold zB; omega) h0
def pc (b : Nat) : Nat := cntB b.testBit 10
def bcF (a0 : Int) : Int := (fun v1 => (fun v2 => o_and (o_add v2 (o_ushr v2 16)) 63) (o_add (o_and (o_add v1 (o_ushr v1 4)) 252645135) (o_ushr (o_and (o_add v1 (o_ushr v1 4)) 252645135) 8))) (o_add (o_and (o_sub a0 (o_and (o_ushr a0 1) 1431655765)) 858993459) (o_and (o_ushr (o_sub a0 (o_and (o_ushr a0 1) 1431655765)) 2) 858993459))
theorem bc_all : ∀ b : Fin 1024, bcF (b.val : Int) = ((pc b.val : Nat) : Int) := by decide +kernel
theorem x_bitCount {b : Nat} (hb : b < 1024) (M : AM) : f_J6_bitCount_0f7a4 (b : Int) M = some (((pc b : Nat) : Int), M) := by
  rw [← bc_all ⟨b, hb⟩]
  rfl
theorem m_sizeOf' {b : Nat} (hb : b < 1024) (M : AM) : f_X11_sizeOf (b : Int) M = some (((pc b : Nat) : Int), M) := m_sizeOf hb M
theorem pc_le (b : Nat) : pc b ≤ 10 := cntB_le _ _
theorem Rg_64 {c : Nat → Int} {M N : AM} (h : Eo [64] M N) (hR : Rg c 23 M) : Rg c 23 N := by
  have h23 : N 23 = M 23 := h 23 (by simp)
  exact Rg_cong (fun i hi => by rw [h23]) (fun i h1 h2 => h _ (by simp; omega)) hR
theorem Rh_64 {c : Nat → Int} {M N : AM} (h : Eo [64] M N) (hR : Rh c 23 M) : Rh c 23 N := Rh_cong (fun i hi => h _ (by simp; omega)) hR
theorem Qx_64 {M N : AM} (h : Eo [64] M N) : Qx M N := Qx_Eo h (by intro a ha; simp at ha; unfold xcell; omega)
def allB (d : Nat → Int) (a : Nat) : Nat → Bool
  | 0 => true
  | n + 1 => allB d a n && (!a.testBit n || rungB d n)
theorem allB_iff {d : Nat → Int} {a : Nat} : ∀ n, allB d a n = true ↔ ∀ k, k < n → a.testBit k = true → rungB d k = true
  | 0 => by simp [allB]
  | n + 1 => by
    have ih := allB_iff (d := d) (a := a) n
    unfold allB
    rw [Bool.and_eq_true, ih]
    constructor
    · rintro ⟨h1, h2⟩ k hk hb
      by_cases e : k = n
      · subst e; simpa [hb] using h2
      · exact h1 k (by omega) hb
    · intro h
      refine ⟨fun k hk hb => h k (by omega) hb, ?_⟩
      cases e : a.testBit n
      · rfl
      · simp [h n (by omega) e]
theorem allB_false {d : Nat → Int} {a : Nat} {n m : Nat} (h : n ≤ m) (hf : allB d a n = false) : allB d a m = false := by
  induction m with
  | zero => have : n = 0 := by omega
            subst this; exact hf
  | succ m ih =>
    by_cases e : n = m + 1
    · subst e; exact hf
    · have := ih (by omega)
      simp [allB, this]
theorem rung_cW {c : Nat → Int} (wh md k : Nat) (hk : k < 6) : rungB (cW c wh md) k = decide (FD (cW c wh md) (c (47 + k)) (c (53 + k)) ≤ c 3) := by
  unfold rungB
  rw [cW_lo c wh md (j := 47 + k) (by omega), cW_lo c wh md (j := 53 + k) (by omega), cW_lo c wh md (j := 3) (by omega)]
theorem x_carryK {c : Nat → Int} {M : AM} (hI : Ic c) (hR : Rg c 23 M) {wh md : Nat} (hwh : wh < 1024) (hmd : md < 1024) {k : Nat} (hk : (k : Int) < c 2) :
    ∃ N, f_X7_carries (M 27 k) (M 28 k) (wh : Int) (md : Int) M = some (if rungB (cW c wh md) k then 1 else 0, N) ∧ Eo [64] M N := by
  have h2 := hI.2.2.1
  have hk2 := Ic_k hI hk
  have e27 : M 27 k = c (47 + k) := (hR.2.2.1 k hk).1
  have e28 : M 28 k = c (53 + k) := (hR.2.2.1 k hk).2.1
  rw [e27, e28]
  obtain ⟨N, e, hE⟩ := x_carries hI hR hwh hmd (x := c (47 + k)) (y := c (53 + k)) hk2.1 hk2.2.1
  refine ⟨N, ?_, hE⟩
  rw [e, rung_cW wh md k (by omega)]
  by_cases g : FD (cW c wh md) (c (47 + k)) (c (53 + k)) ≤ c 3 <;> simp [g]
theorem x_allRung {c : Nat → Int} {M : AM} (hI : Ic c) (hR : Rg c 23 M) {a wh md : Nat} (ha : a < 1024) (hwh : wh < 1024) (hmd : md < 1024) :
    Wp (f_X7_allRung (a : Int) (wh : Int) (md : Int) M) (fun r => r.1 = (if allB (cW c wh md) a (c 2).toNat then 1 else 0) ∧ Eo [64] M r.2) := by
  have h2 := hI.2.2.1
  unfold f_X7_allRung
  refine up_loopP0 (fun n i (s : AM) => f_X7_allRung_3 n (a : Int) (wh : Int) (md : Int) (i : Int) s) (fun i s => allB (cW c wh md) a i = true ∧ Eo [64] M s) _ (c 2).toNat M ⟨rfl, Eo_refl _ _⟩ ?_ ?_ (by omega)
  · rintro n i N hi ⟨h1, hE⟩
    have hRN := Rg_64 hE hR
    have e4 : N 23 4 = c 2 := hRN.1.2.2.2.2.1
    show (∃ s2 : AM, _ ∧ f_X7_allRung_3 (n + 1) (a : Int) (wh : Int) (md : Int) (i : Int) N = _) ∨ Wp (f_X7_allRung_3 (n + 1) (a : Int) (wh : Int) (md : Int) (i : Int) N) _
    simp only [f_X7_allRung_3, tnc]
    rw [if_neg (by omega), o_bit ha (by omega)]
    by_cases g : a.testBit i
    · obtain ⟨N2, e, hE2⟩ := x_carryK hI hRN hwh hmd (k := i) (by omega)
      rw [if_pos g, if_neg (by omega), if_pos (by omega), e, bind_s]
      dsimp only
      cases g2 : rungB (cW c wh md) i
      · right
        have : allB (cW c wh md) a (c 2).toNat = false := allB_false (n := i + 1) (by omega) (by simp [allB, g, g2])
        rw [this]
        exact wp_some ⟨rfl, Eo_trans hE hE2⟩
      · left
        simp only [if_true, i10, not_false_eq_true]
        rw [o_succ (by omega)]
        exact ⟨N2, ⟨by simp [allB, h1, g2], Eo_trans hE hE2⟩, rfl⟩
    · left
      rw [if_neg g, if_pos rfl, o_succ (by omega)]
      exact ⟨N, ⟨by simp [allB, h1, g], hE⟩, rfl⟩
  · rintro n N ⟨h1, hE⟩
    have e4 : N 23 4 = c 2 := (Rg_64 hE hR).1.2.2.2.2.1
    show Wp (f_X7_allRung_3 (n + 1) (a : Int) (wh : Int) (md : Int) (((c 2).toNat : Nat) : Int) N) _
    simp only [f_X7_allRung_3]
    rw [if_pos (by omega), h1]
    exact wp_some ⟨rfl, hE⟩
theorem x_countRung {c : Nat → Int} {M : AM} (hI : Ic c) (hR : Rg c 23 M) {wh md : Nat} (hwh : wh < 1024) (hmd : md < 1024) :
    Wp (f_X7_countRung (wh : Int) (md : Int) M) (fun r => r.1 = ((cntB (rungB (cW c wh md)) (c 2).toNat : Nat) : Int) ∧ Eo [64] M r.2) := by
  have h2 := hI.2.2.1
  unfold f_X7_countRung
  refine up_loopP0 (fun n i (s : Int × AM) => f_X7_countRung_6 n (wh : Int) (md : Int) s.1 (i : Int) s.2) (fun i s => s.1 = ((cntB (rungB (cW c wh md)) i : Nat) : Int) ∧ Eo [64] M s.2) _ (c 2).toNat (0, M) ⟨rfl, Eo_refl _ _⟩ ?_ ?_ (by omega)
  · rintro n i ⟨s, N⟩ hi ⟨h1, hE⟩
    replace h1 : s = _ := h1
    replace hE : Eo [64] M N := hE
    have hRN := Rg_64 hE hR
    have e4 : N 23 4 = c 2 := hRN.1.2.2.2.2.1
    have hle := cntB_le (rungB (cW c wh md)) i
    obtain ⟨N2, e, hE2⟩ := x_carryK hI hRN hwh hmd (k := i) (by omega)
    left
    show ∃ s2 : Int × AM, _ ∧ f_X7_countRung_6 (n + 1) (wh : Int) (md : Int) s (i : Int) N = _
    simp only [f_X7_countRung_6, tnc]
    rw [if_neg (by omega), if_pos (by omega), e, bind_s, o_succ (by omega)]
    dsimp only
    cases g : rungB (cW c wh md) i
    · simp only [Bool.false_eq_true, if_false, if_true]
      exact ⟨(s, N2), ⟨by show s = _; rw [h1]; simp [cntB, g], Eo_trans hE hE2⟩, rfl⟩
    · simp only [if_true, i10, if_false]
      rw [o_add_eq (by omega) (by omega)]
      exact ⟨(s + 1, N2), ⟨by show s + 1 = _; rw [h1]; simp [cntB, g], Eo_trans hE hE2⟩, rfl⟩
  · rintro n ⟨s, N⟩ ⟨h1, hE⟩
    replace hE : Eo [64] M N := hE
    have e4 : N 23 4 = c 2 := (Rg_64 hE hR).1.2.2.2.2.1
    show Wp (f_X7_countRung_6 (n + 1) (wh : Int) (md : Int) s (((c 2).toNat : Nat) : Int) N) _
    simp only [f_X7_countRung_6]
    rw [if_pos (by omega)]
    exact wp_some ⟨h1, hE⟩
def mendB (c : Nat → Int) (w : Nat) : Bool := decide (c (37 + w) = 0 ∨ 0 < c (27 + w))
def mendN (c : Nat → Int) : Nat := setB (mendB c) (c 1).toNat
theorem x_mendable {c : Nat → Int} {M : AM} (hI : Ic c) (hR : Rg c 23 M) : f_X7_mendableSet M = some (((mendN c : Nat) : Int), M) := by
  have h1 := hI.2.1
  unfold f_X7_mendableSet
  refine up_loop0 (fun n i (s : Int) => f_X7_mendableSet_4 n s (i : Int) M) (fun i => ((setB (mendB c) i : Nat) : Int)) (c 1).toNat _ 0 rfl ?_ ?_ (by omega)
  · intro n i hi
    simp only [f_X7_mendableSet_4]
    rw [hR.1.2.2.2.1, if_neg (by omega), x_isMendable hI hR (by omega), bind_s, o_succ (by omega)]
    by_cases g : c (37 + i) = 0 ∨ 0 < c (27 + i)
    · simp only [if_pos g, i10, if_false]
      rw [o_or_set1 (by omega) (by simpa [mendB] using g)]
    · simp only [if_neg g, if_true]
      rw [← set_skip (p := mendB c) (n := i) (by simpa [mendB] using g)]
  · intro n
    simp only [f_X7_mendableSet_4]
    rw [hR.1.2.2.2.1, if_pos (by omega)]
    rfl
/-- sub-sets -/
theorem o_sub0 {a b : Nat} (ha : a < 1024) (hb : b < 1024) : o_and (a : Int) (o_xor (b : Int) (-1)) = 0 ↔ a &&& b = a := by
  rw [o_andn_nat (by omega) (by omega)]
  have h : a ^^^ (a &&& b) = 0 ↔ a &&& b = a := by
    constructor
    · intro h
      apply Nat.eq_of_testBit_eq
      intro i
      have := congrArg (fun x => Nat.testBit x i) h
      simp only [Nat.testBit_xor, Nat.testBit_and, Nat.zero_testBit] at this ⊢
      cases h1 : a.testBit i <;> cases h2 : b.testBit i <;> simp_all
    · intro h
      rw [h]
      exact Nat.xor_self a
  rw [← h]
  omega
theorem and_lt {a b n : Nat} (h : a < 2 ^ n) : a &&& b < 2 ^ n := Nat.lt_of_le_of_lt Nat.and_le_left h
theorem lt1024 {b n : Nat} (hn : n ≤ 10) (h : b < 2 ^ n) : b < 1024 := Nat.lt_of_lt_of_le h (Nat.le_trans (Nat.pow_le_pow_right (by omega) hn) (by decide))
/-- what a search by size and number finds -/
def Least (P : Nat → Prop) (m r : Nat) : Prop := P r ∧ r < m ∧ ∀ s, s < m → P s → pc r < pc s ∨ pc r = pc s ∧ r ≤ s
theorem Least_eq {P : Nat → Prop} {m r s : Nat} (h1 : Least P m r) (h2 : Least P m s) : r = s := by
  have a := h1.2.2 s h2.2.1 h2.1
  have b := h2.2.2 r h1.2.1 h1.1
  omega
theorem pow_le1024 {n : Nat} (hn : n ≤ 10) : 2 ^ n ≤ 1024 := Nat.le_trans (Nat.pow_le_pow_right (by omega) hn) (by decide)
/-- the search of leastMends -/
theorem x_mendSearch {c : Nat → Int} {M : AM} (hI : Ic c) (hR : Rg c 23 M) {a u : Nat} (ha : a < 1024) (hu : u < 1024) :
    Wp (f_X7_leastMends_34 zB (a : Int) (u : Int) ((2 ^ (c 1).toNat : Nat) : Int) 0 M) (fun r => Eo [64] M r.2 ∧
      ((∃ x : Nat, r.1 = (x : Int) ∧ Least (fun s => s &&& u = s ∧ allB (cW c (wholeN c ||| s) s) a (c 2).toNat = true) (2 ^ (c 1).toNat) x) ∨
       (r.1 = (u : Int) ∧ ∀ s, s < 2 ^ (c 1).toNat → s &&& u = s ∧ allB (cW c (wholeN c ||| s) s) a (c 2).toNat = true → (c 1).toNat ≤ pc s))) := by
  have h1 := hI.2.1
  have hm := pow_le1024 (n := (c 1).toNat) (by omega)
  have hwn : wholeN c < 1024 := lt1024 (n := (c 1).toNat) (by omega) (setB_lt _ _)
  refine up_loopP0 (fun n i (s : AM) => f_X7_leastMends_34 n (a : Int) (u : Int) ((2 ^ (c 1).toNat : Nat) : Int) (i : Int) s)
    (fun i s => Eo [64] M s ∧ ∀ x, x < 2 ^ (c 1).toNat → x &&& u = x ∧ allB (cW c (wholeN c ||| x) x) a (c 2).toNat = true → i ≤ pc x) _ (c 1).toNat M ⟨Eo_refl _ _, fun _ _ _ => Nat.zero_le _⟩ ?_ ?_ (by omega)
  · rintro n i N hi ⟨hE, hinv⟩
    have e3 : N 23 3 = c 1 := (Rg_64 hE hR).1.2.2.2.1
    show (∃ s2 : AM, _ ∧ f_X7_leastMends_34 (n + 1) (a : Int) (u : Int) ((2 ^ (c 1).toNat : Nat) : Int) (i : Int) N = _) ∨ Wp (f_X7_leastMends_34 (n + 1) (a : Int) (u : Int) ((2 ^ (c 1).toNat : Nat) : Int) (i : Int) N) _
    simp only [f_X7_leastMends_34]
    rw [if_neg (by omega)]
    refine up_loopE0 (fun m j (s : AM) => f_X7_leastMends_46 (f_X7_leastMends_34 n) m (a : Int) (u : Int) ((2 ^ (c 1).toNat : Nat) : Int) (i : Int) (j : Int) s)
      (fun j s => Eo [64] M s ∧ ∀ x, x < j → x &&& u = x ∧ allB (cW c (wholeN c ||| x) x) a (c 2).toNat = true → i < pc x)
      (fun o => (∃ s2 : AM, (Eo [64] M s2 ∧ ∀ x, x < 2 ^ (c 1).toNat → x &&& u = x ∧ allB (cW c (wholeN c ||| x) x) a (c 2).toNat = true → i + 1 ≤ pc x) ∧ o = f_X7_leastMends_34 n (a : Int) (u : Int) ((2 ^ (c 1).toNat : Nat) : Int) ((i + 1 : Nat) : Int) s2) ∨ Wp o _)
      (2 ^ (c 1).toNat) N ⟨hE, fun x h => by omega⟩ ?_ ?_ (by omega)
    · rintro m j N2 hj ⟨hE2, hinv2⟩
      have hR2 := Rg_64 hE2 hR
      have e7 : N2 23 7 = ((wholeN c : Nat) : Int) := x_whole hR2
      show (∃ s2 : AM, _ ∧ f_X7_leastMends_46 (f_X7_leastMends_34 n) (m + 1) (a : Int) (u : Int) ((2 ^ (c 1).toNat : Nat) : Int) (i : Int) (j : Int) N2 = _) ∨ ((∃ s2 : AM, _ ∧ f_X7_leastMends_46 (f_X7_leastMends_34 n) (m + 1) (a : Int) (u : Int) ((2 ^ (c 1).toNat : Nat) : Int) (i : Int) (j : Int) N2 = _) ∨ Wp (f_X7_leastMends_46 (f_X7_leastMends_34 n) (m + 1) (a : Int) (u : Int) ((2 ^ (c 1).toNat : Nat) : Int) (i : Int) (j : Int) N2) _)
      simp only [f_X7_leastMends_46]
      rw [if_neg (by omega)]
      have hnext : ∀ N3, Eo [64] M N3 → ¬ (j &&& u = j ∧ allB (cW c (wholeN c ||| j) j) a (c 2).toNat = true ∧ pc j = i) → ∃ s2 : AM, (Eo [64] M s2 ∧ ∀ x, x < j + 1 → x &&& u = x ∧ allB (cW c (wholeN c ||| x) x) a (c 2).toNat = true → i < pc x) ∧ f_X7_leastMends_46 (f_X7_leastMends_34 n) m (a : Int) (u : Int) ((2 ^ (c 1).toNat : Nat) : Int) (i : Int) (o_add (j : Int) 1) N3 = f_X7_leastMends_46 (f_X7_leastMends_34 n) m (a : Int) (u : Int) ((2 ^ (c 1).toNat : Nat) : Int) (i : Int) ((j + 1 : Nat) : Int) s2 := by
        intro N3 hE3 hno
        refine ⟨N3, ⟨hE3, fun x hx hp => ?_⟩, by rw [o_succ (by omega)]⟩
        by_cases e : x = j
        · subst e
          have := hinv x hj hp
          have : ¬ pc x = i := fun h => hno ⟨hp.1, hp.2, h⟩
          omega
        · exact hinv2 x (by omega) hp
      by_cases g1 : j &&& u = j
      · rw [if_neg (fun h => h ((o_sub0 (by omega) hu).mpr g1)), x_bitCount (by omega), bind_s]
        dsimp only
        by_cases g2 : pc j = i
        · have hor : o_or (N2 23 7) (j : Int) = ((wholeN c ||| j : Nat) : Int) := by rw [e7, o_or_nat (by omega) (by omega)]
          have hlt : wholeN c ||| j < 1024 := Nat.or_lt_two_pow (n := 10) hwn (by omega)
          rw [if_neg (fun h => h (by omega)), hor]
          obtain ⟨⟨v, N3⟩, e, hv, hE3⟩ := x_allRung hI hR2 ha hlt (show j < 1024 by omega)
          replace hv : v = _ := hv
          rw [e, bind_s]
          dsimp only
          cases g3 : allB (cW c (wholeN c ||| j) j) a (c 2).toNat
          · left
            rw [hv, g3]
            simp only [Bool.false_eq_true, if_false, if_true]
            exact hnext N3 (Eo_trans hE2 hE3) (fun h => by rw [g3] at h; exact absurd h.2.1 (by decide))
          · right
            right
            rw [hv, g3]
            simp only [if_true, i10, if_false]
            refine wp_some ⟨Eo_trans hE2 hE3, Or.inl ⟨j, rfl, ⟨g1, g3⟩, hj, fun s hs hp => ?_⟩⟩
            have a1 := hinv s hs hp
            by_cases e2 : s < j
            · have := hinv2 s e2 hp; omega
            · omega
        · left
          rw [if_pos (by omega)]
          exact hnext N2 hE2 (fun h => g2 h.2.2)
      · left
        rw [if_pos (fun h => g1 ((o_sub0 (by omega) hu).mp h))]
        exact hnext N2 hE2 (fun h => g1 h.1)
    · rintro m N2 ⟨hE2, hinv2⟩
      left
      show ∃ s2 : AM, _ ∧ f_X7_leastMends_46 (f_X7_leastMends_34 n) (m + 1) (a : Int) (u : Int) ((2 ^ (c 1).toNat : Nat) : Int) (i : Int) ((2 ^ (c 1).toNat : Nat) : Int) N2 = _
      simp only [f_X7_leastMends_46]
      rw [if_pos (Int.le_refl _), o_succ (by omega)]
      exact ⟨N2, ⟨hE2, fun x hx hp => hinv2 x hx hp⟩, rfl⟩
  · rintro n N ⟨hE, hinv⟩
    have e3 : N 23 3 = c 1 := (Rg_64 hE hR).1.2.2.2.1
    show Wp (f_X7_leastMends_34 (n + 1) (a : Int) (u : Int) ((2 ^ (c 1).toNat : Nat) : Int) (((c 1).toNat : Nat) : Int) N) _
    simp only [f_X7_leastMends_34]
    rw [if_pos (by omega)]
    exact wp_some ⟨hE, Or.inr ⟨rfl, hinv⟩⟩
