/-! GAME, the class: what is cut off would not be chosen -/
theorem o_and_bit {b w : Nat} (hb : b < 1024) (hw : w < 10) : o_and (b : Int) (o_shl 1 (w : Int)) = 0 ↔ b.testBit w = false := by
  have hp := lt_pow1024 hw
  rw [o_shl_one' (by omega), o_and_nat (by omega) (by omega)]
  have key : b &&& 2 ^ w = 0 ↔ b.testBit w = false := by
    constructor
    · intro h
      have := congrArg (fun x => Nat.testBit x w) h
      simp only [Nat.testBit_and, Nat.testBit_two_pow, Nat.zero_testBit] at this
      simpa using this
    · intro h
      apply Nat.eq_of_testBit_eq
      intro i
      rw [Nat.testBit_and, Nat.testBit_two_pow, Nat.zero_testBit]
      by_cases e : w = i
      · subst e; simp [h]
      · simp [e]
  rw [← key]
  omega
def HasV (al : Nat → Bool) (val : Nat → Int) (i : Nat) (x : Int) : Prop := ∃ w, w < i ∧ al w = true ∧ val w = x
def HasLe (al : Nat → Bool) (val : Nat → Int) (i : Nat) (x : Int) : Prop := ∃ w, w < i ∧ al w = true ∧ val w ≤ x
def HasGe (al : Nat → Bool) (val : Nat → Int) (i : Nat) (x : Int) : Prop := ∃ w, w < i ∧ al w = true ∧ x ≤ val w
theorem hv_mk {al : Nat → Bool} {val : Nat → Int} {i : Nat} {x : Int} (w : Nat) (h1 : w < i) (h2 : al w = true) (h3 : val w = x) : HasV al val i x := ⟨w, h1, h2, h3⟩
theorem hl_mk {al : Nat → Bool} {val : Nat → Int} {i : Nat} {x : Int} (w : Nat) (h1 : w < i) (h2 : al w = true) (h3 : val w ≤ x) : HasLe al val i x := ⟨w, h1, h2, h3⟩
theorem hg_mk {al : Nat → Bool} {val : Nat → Int} {i : Nat} {x : Int} (w : Nat) (h1 : w < i) (h2 : al w = true) (h3 : x ≤ val w) : HasGe al val i x := ⟨w, h1, h2, h3⟩
theorem hv_up {al : Nat → Bool} {val : Nat → Int} {i : Nat} {x : Int} (h : HasV al val i x) : HasV al val (i + 1) x := by
  obtain ⟨w, h1, h2⟩ := h
  exact ⟨w, by omega, h2⟩
def Sx (z V low high : Int) : Prop := (V ≤ low → z ≤ low) ∧ (high ≤ V → high ≤ z) ∧ (low < V → V < high → z = V)
theorem Sx_refl (V low high : Int) : Sx V V low high := ⟨fun h => h, fun h => h, fun _ _ => rfl⟩
theorem x_leaf {c : Nat → Int} {M : AM} (hI : Ic c) (hR : Rg c 23 M) (b : Bool) {wh md : Nat} (hwh : wh < 1024) (hmd : md < 1024) : Wp ((f_X7_countRung (wh : Int) (md : Int) M).bind fun x1 => some (x1.1, x1.2)) (fun x => x.1 = (playP c 0 b wh md).1 ∧ Eo [64] M x.2) := by
  refine wp_bind (x_countRung hI hR hwh hmd) ?_
  rintro ⟨v, N⟩ ⟨hv, hE⟩
  exact wp_some ⟨hv, hE⟩
theorem x_mouse {c : Nat → Int} (hI : Ic c) (rw_ : Int → Int → Int → Int → Int → AM → Option (Int × AM)) (r : Nat) (hr : r ≤ 10)
    (Hw : ∀ (wh md : Nat) (low high : Int) (M : AM), wh < 1024 → md < 1024 → Rg c 23 M → Wp (rw_ (r : Int) (wh : Int) (md : Int) low high M) (fun x => Sx x.1 (playP c r false wh md).1 low high ∧ Eo [64] M x.2))
    (wh md : Nat) (low high : Int) (M : AM) (hwh : wh < 1024) (hmd : md < 1024) (hR : Rg c 23 M) :
    Wp (fo_X7_mousePlays rw_ ((r + 1 : Nat) : Int) (wh : Int) (md : Int) low high M) (fun x => Sx x.1 (playP c (r + 1) true wh md).1 low high ∧ Eo [64] M x.2) := by
  have h1 := hI.2.1
  obtain ⟨⟨u, hu1, hu2, hu3⟩, hall⟩ := playP_best c r true wh md
  simp only [if_true] at hall
  have hsub : o_sub ((r + 1 : Nat) : Int) 1 = (r : Int) := by rw [o_sub_eq (by omega) (by omega)]; omega
  have htop := hall (c 1).toNat (Nat.le_refl _) (alP_top c true wh md)
  have hvtop : valP c r true wh md (c 1).toNat = (playP c r false wh md).1 := by unfold valP; rw [if_pos rfl]; rfl
  generalize hV : (playP c (r + 1) true wh md).1 = V at hall hu3 htop ⊢
  have hval : ∀ w, w < (c 1).toNat → valP c r true wh md w = (playP c r false (dif wh (2 ^ w)) md).1 := fun w hw => by unfold valP; rw [if_neg (by omega)]; rfl
  have halw : ∀ w, w < (c 1).toNat → alP c true wh md w = wh.testBit w := fun w hw => by
    unfold alP alw
    have : ¬ w = (c 1).toNat := by omega
    simp [this]
  unfold fo_X7_mousePlays
  rw [if_pos (by omega)]
  refine up_loopP0 (fun n i (s : Int × AM) => f_X7_mousePlays_20 rw_ n ((r + 1 : Nat) : Int) (wh : Int) (md : Int) low s.1 (i : Int) s.2)
    (fun i s => Eo [64] M s.2 ∧ s.1 ≤ high ∧ (high ≤ low → s.1 = high) ∧ (low < s.1 → (∀ w, w < i → alP c true wh md w = true → s.1 ≤ valP c r true wh md w) ∧ (s.1 = high ∨ HasV (alP c true wh md) (valP c r true wh md) (i) (s.1))) ∧
      (s.1 ≤ low → s.1 = high ∨ HasLe (alP c true wh md) (valP c r true wh md) (i) low)) _ (c 1).toNat (high, M)
    ⟨Eo_refl _ _, Int.le_refl _, fun _ => rfl, fun _ => ⟨fun w h => by omega, Or.inl rfl⟩, fun _ => Or.inl rfl⟩ ?_ ?_ (by omega)
  · rintro n i ⟨bst, N⟩ hi ⟨hE, i1, i2, i3, i4⟩
    replace hE : Eo [64] M N := hE
    replace i1 : bst ≤ high := i1
    replace i2 : high ≤ low → bst = high := i2
    replace i3 : low < bst → (∀ w, w < i → alP c true wh md w = true → bst ≤ valP c r true wh md w) ∧ (bst = high ∨ HasV (alP c true wh md) (valP c r true wh md) (i) (bst)) := i3
    replace i4 : bst ≤ low → bst = high ∨ HasLe (alP c true wh md) (valP c r true wh md) (i) low := i4
    have hRN := Rg_64 hE hR
    have e3 : N 23 3 = c 1 := hRN.1.2.2.2.1
    show (∃ s2 : Int × AM, _ ∧ f_X7_mousePlays_20 rw_ (n + 1) ((r + 1 : Nat) : Int) (wh : Int) (md : Int) low bst (i : Int) N = _) ∨ Wp (f_X7_mousePlays_20 rw_ (n + 1) ((r + 1 : Nat) : Int) (wh : Int) (md : Int) low bst (i : Int) N) _
    simp only [f_X7_mousePlays_20]
    rw [if_neg (by omega)]
    by_cases g1 : bst ≤ low
    · right
      rw [if_pos g1]
      unfold f_X7_mousePlays_84
      rw [if_pos g1]
      refine wp_some ⟨⟨fun _ => g1, fun h => ?_, fun h1 h2 => ?_⟩, hE⟩
      · show high ≤ bst
        rcases i4 g1 with h4 | ⟨w, hw, ha, hv⟩
        · omega
        · have := hall w (by omega) ha
          by_cases h5 : high ≤ low
          · rw [i2 h5]; exact Int.le_refl _
          · omega
      · show bst = V
        rcases i4 g1 with h4 | ⟨w, hw, ha, hv⟩
        · omega
        · have := hall w (by omega) ha
          omega
    · left
      obtain ⟨i3a, i3b⟩ := i3 (by omega)
      have hor : o_and (wh : Int) (o_xor (o_shl 1 (i : Int)) (-1)) = ((dif wh (2 ^ i) : Nat) : Int) := by rw [o_shl_one' (by omega), o_dif hwh (lt_pow1024 (by omega))]
      rw [if_neg g1, o_bit hwh (by omega)]
      cases hb : wh.testBit i
      · simp only [Bool.false_eq_true, if_false, if_true]
        have hni : alP c true wh md i = false := by rw [halw i hi, hb]
        refine ⟨(bst, N), ⟨hE, i1, i2, fun _ => ⟨fun w hw ha => ?_, ?_⟩, fun h => absurd h g1⟩, by rw [o_succ (by omega)]⟩
        · by_cases e : w = i
          · subst e; rw [hni] at ha; cases ha
          · exact i3a w (by omega) ha
        · rcases i3b with h | h
          · exact Or.inl h
          · exact Or.inr (hv_up h)
      · simp only [if_true, i10, if_false]
        have hyi : alP c true wh md i = true := by rw [halw i hi, hb]
        rw [hsub, hor]
        obtain ⟨⟨z, N2⟩, e, hz, hE2⟩ := Hw (dif wh (2 ^ i)) md low bst N (dif_lt (n := 10) hwh) hmd hRN
        replace hz : Sx z (playP c r false (dif wh (2 ^ i)) md).1 low bst := hz
        rw [← hval i hi] at hz
        obtain ⟨z1, z2, z3⟩ := hz
        rw [e, bind_s, o_succ (by omega), o_min_eq]
        refine ⟨(min bst z, N2), ⟨Eo_trans hE hE2, by show min bst z ≤ high; omega, fun h => by have := i2 h; omega, fun h => ?_, fun h => ?_⟩, rfl⟩
        · replace h : low < min bst z := h
          show (∀ w, w < i + 1 → alP c true wh md w = true → min bst z ≤ valP c r true wh md w) ∧ (min bst z = high ∨ HasV (alP c true wh md) (valP c r true wh md) (i + 1) (min bst z))
          by_cases q1 : bst ≤ valP c r true wh md i
          · have hzb := z2 q1
            have hmin : min bst z = bst := by omega
            rw [hmin]
            refine ⟨fun w hw ha => ?_, ?_⟩
            · by_cases e : w = i
              · subst e; exact q1
              · exact i3a w (by omega) ha
            · rcases i3b with h | h
              · exact Or.inl h
              · exact Or.inr (hv_up h)
          · have hlo : low < valP c r true wh md i := by
              apply Classical.byContradiction
              intro hn
              have := z1 (by omega)
              omega
            have hzv := z3 hlo (by omega)
            have hmin : min bst z = valP c r true wh md i := by omega
            rw [hmin]
            refine ⟨fun w hw ha => ?_, Or.inr (hv_mk i (by omega) hyi rfl)⟩
            by_cases e : w = i
            · subst e; exact Int.le_refl _
            · have := i3a w (by omega) ha
              omega
        · replace h : min bst z ≤ low := h
          show min bst z = high ∨ HasLe (alP c true wh md) (valP c r true wh md) (i + 1) low
          right
          refine hl_mk i (by omega) hyi ?_
          apply Classical.byContradiction
          intro hn
          by_cases q1 : bst ≤ valP c r true wh md i
          · have := z2 q1; omega
          · have := z3 (by omega) (by omega); omega
  · rintro n ⟨bst, N⟩ ⟨hE, i1, i2, i3, i4⟩
    replace hE : Eo [64] M N := hE
    replace i1 : bst ≤ high := i1
    replace i2 : high ≤ low → bst = high := i2
    replace i3 : low < bst → (∀ w, w < (c 1).toNat → alP c true wh md w = true → bst ≤ valP c r true wh md w) ∧ (bst = high ∨ HasV (alP c true wh md) (valP c r true wh md) ((c 1).toNat) (bst)) := i3
    replace i4 : bst ≤ low → bst = high ∨ HasLe (alP c true wh md) (valP c r true wh md) ((c 1).toNat) low := i4
    have hRN := Rg_64 hE hR
    have e3 : N 23 3 = c 1 := hRN.1.2.2.2.1
    show Wp (f_X7_mousePlays_20 rw_ (n + 1) ((r + 1 : Nat) : Int) (wh : Int) (md : Int) low bst (((c 1).toNat : Nat) : Int) N) _
    simp only [f_X7_mousePlays_20]
    rw [if_pos (by omega)]
    unfold f_X7_mousePlays_84
    by_cases g1 : bst ≤ low
    · rw [if_pos g1]
      refine wp_some ⟨⟨fun _ => g1, fun h => ?_, fun h1 h2 => ?_⟩, hE⟩
      · show high ≤ bst
        rcases i4 g1 with h4 | ⟨w, hw, ha, hv⟩
        · omega
        · have := hall w (by omega) ha
          by_cases h5 : high ≤ low
          · rw [i2 h5]; exact Int.le_refl _
          · omega
      · show bst = V
        rcases i4 g1 with h4 | ⟨w, hw, ha, hv⟩
        · omega
        · have := hall w (by omega) ha
          omega
    · obtain ⟨i3a, i3b⟩ := i3 (by omega)
      rw [if_neg g1, hsub]
      obtain ⟨⟨z, N2⟩, e, hz, hE2⟩ := Hw wh md low bst N hwh hmd hRN
      replace hz : Sx z (playP c r false wh md).1 low bst := hz
      rw [← hvtop] at hz
      obtain ⟨z1, z2, z3⟩ := hz
      rw [e, bind_s, o_min_eq]
      -- V is one of the values
      have hVc : HasV (alP c true wh md) (valP c r true wh md) (c 1).toNat V ∨ V = valP c r true wh md (c 1).toNat := by
        by_cases e : u = (c 1).toNat
        · right; rw [hu3, e]
        · left; exact hv_mk u (by omega) hu2 hu3.symm
      have hVb : V ≤ bst ∨ bst = high := by
        rcases i3b with h | ⟨w, hw, ha, hv⟩
        · exact Or.inr h
        · left; rw [← hv]; exact hall w (by omega) ha
      have hbV : bst ≤ V ∨ V = valP c r true wh md (c 1).toNat := by
        rcases hVc with ⟨w, hw, ha, hv⟩ | h
        · left; rw [← hv]; exact i3a w hw ha
        · exact Or.inr h
      refine wp_some ⟨⟨fun h => ?_, fun h => ?_, fun q1 q2 => ?_⟩, Eo_trans hE hE2⟩
      · show min bst z ≤ low
        have := z1 (by omega)
        omega
      · show high ≤ min bst z
        have := z2 (by omega)
        omega
      · show min bst z = V
        by_cases q3 : bst ≤ valP c r true wh md (c 1).toNat
        · have := z2 q3; omega
        · have := z3 (by omega) (by omega); omega
theorem x_man {c : Nat → Int} (hI : Ic c) (rm_ : Int → Int → Int → Int → Int → AM → Option (Int × AM)) (r : Nat) (hr : r ≤ 10)
    (Hm : ∀ (wh md : Nat) (low high : Int) (M : AM), wh < 1024 → md < 1024 → Rg c 23 M → Wp (rm_ (r : Int) (wh : Int) (md : Int) low high M) (fun x => Sx x.1 (playP c r true wh md).1 low high ∧ Eo [64] M x.2))
    (wh md : Nat) (low high : Int) (M : AM) (hwh : wh < 1024) (hmd : md < 1024) (hR : Rg c 23 M) :
    Wp (fo_X7_wiremanPlays rm_ ((r + 1 : Nat) : Int) (wh : Int) (md : Int) low high M) (fun x => (Sx x.1 (playP c (r + 1) false wh md).1 low high ∧ low ≤ x.1) ∧ Eo [64] M x.2) := by
  have h1 := hI.2.1
  obtain ⟨⟨u, hu1, hu2, hu3⟩, hall⟩ := playP_best c r false wh md
  simp only [Bool.false_eq_true, if_false] at hall
  have hsub : o_sub ((r + 1 : Nat) : Int) 1 = (r : Int) := by rw [o_sub_eq (by omega) (by omega)]; omega
  have htop := hall (c 1).toNat (Nat.le_refl _) (alP_top c false wh md)
  have hvtop : valP c r false wh md (c 1).toNat = (playP c r true wh md).1 := by unfold valP; rw [if_pos rfl]; rfl
  generalize hV : (playP c (r + 1) false wh md).1 = V at hall hu3 htop ⊢
  have hval : ∀ w, w < (c 1).toNat → valP c r false wh md w = (playP c r true (wh ||| 2 ^ w) (md ||| 2 ^ w)).1 := fun w hw => by unfold valP; rw [if_neg (by omega)]; rfl
  have halw : ∀ w, w < (c 1).toNat → alP c false wh md w = (!wh.testBit w || !(md.testBit w || decide (c (27 + w) = 0))) := fun w hw => by
    unfold alP alw
    have : ¬ w = (c 1).toNat := by omega
    simp [this]
  -- what is told where the search is cut off
  have hcut : ∀ (bst : Int) (N : AM) (i : Nat), i ≤ (c 1).toNat → Eo [64] M N → low ≤ bst → (high ≤ low → bst = low) → (high ≤ bst → bst = low ∨ HasGe (alP c false wh md) (valP c r false wh md) (i) high) → high ≤ bst → Wp (f_X7_wiremanPlays_117 rm_ ((r + 1 : Nat) : Int) (wh : Int) (md : Int) high bst N) (fun x => (Sx x.1 V low high ∧ low ≤ x.1) ∧ Eo [64] M x.2) := by
    intro bst N i hi hE i1 i2 i4 g1
    unfold f_X7_wiremanPlays_117
    rw [if_pos g1]
    refine wp_some ⟨⟨⟨fun h => ?_, fun _ => g1, fun h1 h2 => ?_⟩, i1⟩, hE⟩
    · show bst ≤ low
      rcases i4 g1 with h4 | ⟨w, hw, ha, hv⟩
      · omega
      · have := hall w (by omega) ha
        by_cases h5 : high ≤ low
        · rw [i2 h5]; exact Int.le_refl _
        · omega
    · show bst = V
      rcases i4 g1 with h4 | ⟨w, hw, ha, hv⟩
      · omega
      · have := hall w (by omega) ha
        omega
  unfold fo_X7_wiremanPlays
  rw [if_pos (by omega)]
  refine up_loopP0 (fun n i (s : Int × AM) => f_X7_wiremanPlays_20 rm_ n ((r + 1 : Nat) : Int) (wh : Int) (md : Int) high s.1 (i : Int) s.2)
    (fun i s => Eo [64] M s.2 ∧ low ≤ s.1 ∧ (high ≤ low → s.1 = low) ∧ (s.1 < high → (∀ w, w < i → alP c false wh md w = true → valP c r false wh md w ≤ s.1) ∧ (s.1 = low ∨ HasV (alP c false wh md) (valP c r false wh md) (i) (s.1))) ∧
      (high ≤ s.1 → s.1 = low ∨ HasGe (alP c false wh md) (valP c r false wh md) (i) high)) _ (c 1).toNat (low, M)
    ⟨Eo_refl _ _, Int.le_refl _, fun _ => rfl, fun _ => ⟨fun w h => by omega, Or.inl rfl⟩, fun _ => Or.inl rfl⟩ ?_ ?_ (by omega)
  · rintro n i ⟨bst, N⟩ hi ⟨hE, i1, i2, i3, i4⟩
    replace hE : Eo [64] M N := hE
    replace i1 : low ≤ bst := i1
    replace i2 : high ≤ low → bst = low := i2
    replace i3 : bst < high → (∀ w, w < i → alP c false wh md w = true → valP c r false wh md w ≤ bst) ∧ (bst = low ∨ HasV (alP c false wh md) (valP c r false wh md) (i) (bst)) := i3
    replace i4 : high ≤ bst → bst = low ∨ HasGe (alP c false wh md) (valP c r false wh md) (i) high := i4
    have hRN := Rg_64 hE hR
    have e3 : N 23 3 = c 1 := hRN.1.2.2.2.1
    have e26 : N 26 i = c (27 + i) := (hRN.2.1 i (by omega)).2.2
    show (∃ s2 : Int × AM, _ ∧ f_X7_wiremanPlays_20 rm_ (n + 1) ((r + 1 : Nat) : Int) (wh : Int) (md : Int) high bst (i : Int) N = _) ∨ Wp (f_X7_wiremanPlays_20 rm_ (n + 1) ((r + 1 : Nat) : Int) (wh : Int) (md : Int) high bst (i : Int) N) _
    simp only [f_X7_wiremanPlays_20]
    rw [if_neg (by omega)]
    by_cases g1 : high ≤ bst
    · right
      rw [if_pos g1]
      exact hcut bst N i (by omega) hE i1 i2 i4 g1
    · left
      obtain ⟨i3a, i3b⟩ := i3 (by omega)
      have hw1 : o_or (wh : Int) (o_shl 1 (i : Int)) = ((wh ||| 2 ^ i : Nat) : Int) := by rw [o_shl_one' (by omega), o_or_nat (by omega) (by have := lt_pow1024 (w := i) (by omega); omega)]
      have hw2 : o_or (md : Int) (o_shl 1 (i : Int)) = ((md ||| 2 ^ i : Nat) : Int) := by rw [o_shl_one' (by omega), o_or_nat (by omega) (by have := lt_pow1024 (w := i) (by omega); omega)]
      have hskip : alP c false wh md i = false → ∃ s2 : Int × AM, (Eo [64] M s2.2 ∧ low ≤ s2.1 ∧ (high ≤ low → s2.1 = low) ∧ (s2.1 < high → (∀ w, w < i + 1 → alP c false wh md w = true → valP c r false wh md w ≤ s2.1) ∧ (s2.1 = low ∨ HasV (alP c false wh md) (valP c r false wh md) (i + 1) (s2.1))) ∧
          (high ≤ s2.1 → s2.1 = low ∨ HasGe (alP c false wh md) (valP c r false wh md) (i + 1) high)) ∧ f_X7_wiremanPlays_20 rm_ n ((r + 1 : Nat) : Int) (wh : Int) (md : Int) high bst (o_add (i : Int) 1) N = f_X7_wiremanPlays_20 rm_ n ((r + 1 : Nat) : Int) (wh : Int) (md : Int) high s2.1 ((i + 1 : Nat) : Int) s2.2 := by
        intro hni
        refine ⟨(bst, N), ⟨hE, i1, i2, fun _ => ⟨fun w hw ha => ?_, ?_⟩, fun h => absurd h g1⟩, by rw [o_succ (by omega)]⟩
        · by_cases e : w = i
          · subst e; rw [hni] at ha; cases ha
          · exact i3a w (by omega) ha
        · rcases i3b with h | h
          · exact Or.inl h
          · exact Or.inr (hv_up h)
      have hdo : alP c false wh md i = true → ∃ s2 : Int × AM, (Eo [64] M s2.2 ∧ low ≤ s2.1 ∧ (high ≤ low → s2.1 = low) ∧ (s2.1 < high → (∀ w, w < i + 1 → alP c false wh md w = true → valP c r false wh md w ≤ s2.1) ∧ (s2.1 = low ∨ HasV (alP c false wh md) (valP c r false wh md) (i + 1) (s2.1))) ∧
          (high ≤ s2.1 → s2.1 = low ∨ HasGe (alP c false wh md) (valP c r false wh md) (i + 1) high)) ∧ f_X7_wiremanPlays_79 rm_ (f_X7_wiremanPlays_20 rm_ n) ((r + 1 : Nat) : Int) (wh : Int) (md : Int) high bst (i : Int) (o_shl 1 (i : Int)) N = f_X7_wiremanPlays_20 rm_ n ((r + 1 : Nat) : Int) (wh : Int) (md : Int) high s2.1 ((i + 1 : Nat) : Int) s2.2 := by
        intro hyi
        unfold f_X7_wiremanPlays_79
        rw [hsub, hw1, hw2]
        obtain ⟨⟨z, N2⟩, e, hz, hE2⟩ := Hm (wh ||| 2 ^ i) (md ||| 2 ^ i) bst high N (Nat.or_lt_two_pow (n := 10) hwh (lt_pow1024 (by omega))) (Nat.or_lt_two_pow (n := 10) hmd (lt_pow1024 (by omega))) hRN
        replace hz : Sx z (playP c r true (wh ||| 2 ^ i) (md ||| 2 ^ i)).1 bst high := hz
        rw [← hval i hi] at hz
        obtain ⟨z1, z2, z3⟩ := hz
        rw [e, bind_s, o_succ (by omega), o_max_eq]
        refine ⟨(max bst z, N2), ⟨Eo_trans hE hE2, by show low ≤ max bst z; omega, fun h => by have := i2 h; omega, fun h => ?_, fun h => ?_⟩, rfl⟩
        · replace h : max bst z < high := h
          show (∀ w, w < i + 1 → alP c false wh md w = true → valP c r false wh md w ≤ max bst z) ∧ (max bst z = low ∨ HasV (alP c false wh md) (valP c r false wh md) (i + 1) (max bst z))
          by_cases q1 : valP c r false wh md i ≤ bst
          · have hzb := z1 q1
            have hmax : max bst z = bst := by omega
            rw [hmax]
            refine ⟨fun w hw ha => ?_, ?_⟩
            · by_cases e : w = i
              · subst e; exact q1
              · exact i3a w (by omega) ha
            · rcases i3b with h | h
              · exact Or.inl h
              · exact Or.inr (hv_up h)
          · have hhi : valP c r false wh md i < high := by
              apply Classical.byContradiction
              intro hn
              have := z2 (by omega)
              omega
            have hzv := z3 (by omega) hhi
            have hmax : max bst z = valP c r false wh md i := by omega
            rw [hmax]
            refine ⟨fun w hw ha => ?_, Or.inr (hv_mk i (by omega) hyi rfl)⟩
            by_cases e : w = i
            · subst e; exact Int.le_refl _
            · have := i3a w (by omega) ha
              omega
        · replace h : high ≤ max bst z := h
          show max bst z = low ∨ HasGe (alP c false wh md) (valP c r false wh md) (i + 1) high
          right
          refine hg_mk i (by omega) hyi ?_
          apply Classical.byContradiction
          intro hn
          by_cases q1 : valP c r false wh md i ≤ bst
          · have := z1 q1; omega
          · have := z3 (by omega) (by omega); omega
      have h65 : ∀ s0 : Int, (s0 = 0 ∨ s0 = 1) → (alP c false wh md i = true ↔ (wh.testBit i = false ∨ s0 = 0)) → ∃ s2 : Int × AM, (Eo [64] M s2.2 ∧ low ≤ s2.1 ∧ (high ≤ low → s2.1 = low) ∧ (s2.1 < high → (∀ w, w < i + 1 → alP c false wh md w = true → valP c r false wh md w ≤ s2.1) ∧ (s2.1 = low ∨ HasV (alP c false wh md) (valP c r false wh md) (i + 1) (s2.1))) ∧
          (high ≤ s2.1 → s2.1 = low ∨ HasGe (alP c false wh md) (valP c r false wh md) (i + 1) high)) ∧ f_X7_wiremanPlays_65 rm_ (f_X7_wiremanPlays_20 rm_ n) ((r + 1 : Nat) : Int) (wh : Int) (md : Int) high bst (i : Int) (o_shl 1 (i : Int)) s0 N = f_X7_wiremanPlays_20 rm_ n ((r + 1 : Nat) : Int) (wh : Int) (md : Int) high s2.1 ((i + 1 : Nat) : Int) s2.2 := by
        intro s0 hs0 hiff
        unfold f_X7_wiremanPlays_65
        by_cases q1 : wh.testBit i = false
        · rw [if_pos ((o_and_bit hwh (by omega)).mpr q1)]
          exact hdo (hiff.mpr (Or.inl q1))
        · rw [if_neg (fun h => q1 ((o_and_bit hwh (by omega)).mp h))]
          rcases hs0 with rfl | rfl
          · rw [if_neg (fun h => h rfl)]
            exact hdo (hiff.mpr (Or.inr rfl))
          · rw [if_pos (by decide)]
            refine hskip ?_
            cases h : alP c false wh md i
            · rfl
            · rcases hiff.mp h with h | h
              · exact absurd h q1
              · exact absurd h (by decide)
      rw [if_neg g1]
      have hal := halw i hi
      by_cases q2 : md.testBit i = false
      · rw [if_neg (fun h => h ((o_and_bit hmd (by omega)).mpr q2)), if_pos (by omega), tnc, e26]
        by_cases q3 : c (27 + i) = 0
        · rw [if_neg (fun h => h q3)]
          refine h65 1 (Or.inr rfl) ?_
          rw [hal, q2]
          simp [q3]
        · rw [if_pos q3]
          refine h65 0 (Or.inl rfl) ?_
          rw [hal, q2]
          simp [q3]
      · have q4 : md.testBit i = true := by
          cases h : md.testBit i
          · exact absurd h q2
          · rfl
        rw [if_pos (fun h => q2 ((o_and_bit hmd (by omega)).mp h))]
        refine h65 1 (Or.inr rfl) ?_
        rw [hal, q4]
        simp
  · rintro n ⟨bst, N⟩ ⟨hE, i1, i2, i3, i4⟩
    replace hE : Eo [64] M N := hE
    replace i1 : low ≤ bst := i1
    replace i2 : high ≤ low → bst = low := i2
    replace i3 : bst < high → (∀ w, w < (c 1).toNat → alP c false wh md w = true → valP c r false wh md w ≤ bst) ∧ (bst = low ∨ HasV (alP c false wh md) (valP c r false wh md) ((c 1).toNat) (bst)) := i3
    replace i4 : high ≤ bst → bst = low ∨ HasGe (alP c false wh md) (valP c r false wh md) ((c 1).toNat) high := i4
    have hRN := Rg_64 hE hR
    have e3 : N 23 3 = c 1 := hRN.1.2.2.2.1
    show Wp (f_X7_wiremanPlays_20 rm_ (n + 1) ((r + 1 : Nat) : Int) (wh : Int) (md : Int) high bst (((c 1).toNat : Nat) : Int) N) _
    simp only [f_X7_wiremanPlays_20]
    rw [if_pos (by omega)]
    by_cases g1 : high ≤ bst
    · exact hcut bst N (c 1).toNat (Nat.le_refl _) hE i1 i2 i4 g1
    · obtain ⟨i3a, i3b⟩ := i3 (by omega)
      unfold f_X7_wiremanPlays_117
      rw [if_neg g1, hsub]
      obtain ⟨⟨z, N2⟩, e, hz, hE2⟩ := Hm wh md bst high N hwh hmd hRN
      replace hz : Sx z (playP c r true wh md).1 bst high := hz
      rw [← hvtop] at hz
      obtain ⟨z1, z2, z3⟩ := hz
      rw [e, bind_s, o_max_eq]
      have hVc : HasV (alP c false wh md) (valP c r false wh md) (c 1).toNat V ∨ V = valP c r false wh md (c 1).toNat := by
        by_cases e : u = (c 1).toNat
        · right; rw [hu3, e]
        · left; exact hv_mk u (by omega) hu2 hu3.symm
      have hVb : bst ≤ V ∨ bst = low := by
        rcases i3b with h | ⟨w, hw, ha, hv⟩
        · exact Or.inr h
        · left; rw [← hv]; exact hall w (by omega) ha
      have hbV : V ≤ bst ∨ V = valP c r false wh md (c 1).toNat := by
        rcases hVc with ⟨w, hw, ha, hv⟩ | h
        · left; rw [← hv]; exact i3a w hw ha
        · exact Or.inr h
      refine wp_some ⟨⟨⟨fun h => ?_, fun h => ?_, fun q1 q2 => ?_⟩, by show low ≤ max bst z; omega⟩, Eo_trans hE hE2⟩
      · show max bst z ≤ low
        have := z1 (by omega)
        omega
      · show high ≤ max bst z
        have := z2 (by omega)
        omega
      · show max bst z = V
        by_cases q3 : valP c r false wh md (c 1).toNat ≤ bst
        · have := z1 q3; omega
        · have := z3 (by omega) (by omega); omega
/-- the wireman's turn, however deep -/
theorem x_wireman {c : Nat → Int} (hI : Ic c) : ∀ (n r : Nat), r ≤ 2 * n → r ≤ 10 → ∀ (wh md : Nat) (low high : Int) (M : AM), wh < 1024 → md < 1024 → Rg c 23 M →
    Wp (fc_X7_wiremanPlays (n + 1) (r : Int) (wh : Int) (md : Int) low high M) (fun x => (Sx x.1 (playP c r false wh md).1 low high ∧ (low ≤ x.1 ∨ x.1 = (playP c r false wh md).1)) ∧ Eo [64] M x.2) := by
  intro n
  induction n with
  | zero =>
    intro r hr _ wh md low high M hwh hmd hR
    have : r = 0 := by omega
    subst this
    simp only [fc_X7_wiremanPlays]
    unfold fo_X7_wiremanPlays
    rw [if_neg (by omega)]
    refine wp_mono (x_leaf hI hR false hwh hmd) ?_
    rintro ⟨v, N⟩ ⟨hv, hE⟩
    replace hv : v = _ := hv
    exact ⟨⟨by show Sx v _ low high; rw [hv]; exact Sx_refl _ _ _, Or.inr hv⟩, hE⟩
  | succ n ih =>
    intro r hr hr2 wh md low high M hwh hmd hR
    have ecall : fc_X7_wiremanPlays (n + 1 + 1) (r : Int) (wh : Int) (md : Int) low high M = fo_X7_wiremanPlays (fo_X7_mousePlays (fc_X7_wiremanPlays (n + 1))) (r : Int) (wh : Int) (md : Int) low high M := rfl
    rw [ecall]
    rcases Nat.eq_zero_or_pos r with h0 | hpos
    · subst h0
      unfold fo_X7_wiremanPlays
      rw [if_neg (by omega)]
      refine wp_mono (x_leaf hI hR false hwh hmd) ?_
      rintro ⟨v, N⟩ ⟨hv, hE⟩
      replace hv : v = _ := hv
      exact ⟨⟨by show Sx v _ low high; rw [hv]; exact Sx_refl _ _ _, Or.inr hv⟩, hE⟩
    · obtain ⟨r1, rfl⟩ : ∃ r1, r = r1 + 1 := ⟨r - 1, by omega⟩
      refine wp_mono (x_man hI (fo_X7_mousePlays (fc_X7_wiremanPlays (n + 1))) r1 (by omega) ?_ wh md low high M hwh hmd hR) (fun x hx => ⟨⟨hx.1.1, Or.inl hx.1.2⟩, hx.2⟩)
      intro wh2 md2 low2 high2 M2 hwh2 hmd2 hR2
      rcases Nat.eq_zero_or_pos r1 with h0 | hpos1
      · subst h0
        unfold fo_X7_mousePlays
        rw [if_neg (by omega)]
        refine wp_mono (x_leaf hI hR2 true hwh2 hmd2) ?_
        rintro ⟨v, N⟩ ⟨hv, hE⟩
        replace hv : v = _ := hv
        exact ⟨by show Sx v _ low2 high2; rw [hv]; exact Sx_refl _ _ _, hE⟩
      · obtain ⟨r2, rfl⟩ : ∃ r2, r1 = r2 + 1 := ⟨r1 - 1, by omega⟩
        refine x_mouse hI (fc_X7_wiremanPlays (n + 1)) r2 (by omega) ?_ wh2 md2 low2 high2 M2 hwh2 hmd2 hR2
        intro wh3 md3 low3 high3 M3 hwh3 hmd3 hR3
        exact wp_mono (ih r2 (by omega) (by omega) wh3 md3 low3 high3 M3 hwh3 hmd3 hR3) (fun x hx => ⟨hx.1.1, hx.2⟩)
