/-! the law's loop -/
theorem o_and63 (x : Int32) : ∃ k : Nat, k < 64 ∧ o_and x.toInt 63 = (k : Int) := by
  have h1 : (x.toBitVec &&& (63 : BitVec 32)).toNat ≤ 63 := by
    rw [BitVec.toNat_and]
    exact Nat.and_le_right
  refine ⟨(x.toBitVec &&& (63 : BitVec 32)).toNat, by omega, ?_⟩
  have e63 : (Int32.ofInt 63).toBitVec = (63 : BitVec 32) := by decide +kernel
  unfold o_and
  rw [Int32.ofInt_toInt]
  show (x.toBitVec &&& (Int32.ofInt 63).toBitVec).toInt = _
  rw [e63]
  exact BitVec.toInt_eq_toNat_of_lt (by omega)
section LLoop
variable {b L : Nat} {xs : Nat → Int32} {i : Nat} {M M' : AM} {v : Option AV}
theorem l_head (hi : i ≤ 3072) (hL : L ≤ 3072) (kt : L < i + 6 → EvP (lP b L xs) zY 20 m_LAW 1761 (llo (i : Int)) [] M v M') (kf : i + 6 ≤ L → EvP (lP b L xs) zY 20 m_LAW 27 (llo (i : Int)) [] M v M') : EvP (lP b L xs) zY 20 m_LAW 18 (llo (i : Int)) [] M v M' := by
  refine L_blk k_LAW 2 (pc' := 20) (lo' := llo (i : Int)) (st' := [vR 998 9 0, vI (i : Int)]) (M1 := M) (zrun_s (lent (pc := 18) (e := .iload_n 3) (by decide +kernel)) rfl (zrun_s (lent (pc := 19) (e := .aload_n 0) (by decide +kernel)) rfl rfl)) ?_
  refine L_len k_LAW (lent (pc := 20) (e := .arraylength) (by decide +kernel)) hL ?_
  refine L_blk k_LAW 2 (pc' := 24) (lo' := llo (i : Int)) (st' := [vI (o_sub (L : Int) 6), vI (i : Int)]) (M1 := M) (zrun_s (lenE (pc := 21) (e := .bipush 6) (rn := zN) (rz := 6) (by decide +kernel)) rfl (zrun_s (lent (pc := 23) (e := .isub) (by decide +kernel)) rfl rfl)) ?_
  have e : o_sub (L : Int) 6 = (L : Int) - 6 := o_sub_eq (by omega) (by omega)
  rw [e]
  refine L_icmp k_LAW (lent (pc := 24) (e := .if_icmp .gt 1737) (by decide +kernel)) 1761 (by decide) (fun h => kt ?_) (fun h => kf ?_)
  · have h : (L : Int) - 6 < (i : Int) := h
    omega
  · have h : ¬ (L : Int) - 6 < (i : Int) := h
    omega
theorem l_disp (hi : i + 6 ≤ L) (hL : L ≤ 3072) (k0 : ∀ k : Nat, k < 54 → o_and (xs i).toInt 63 = (k : Int) → EvP (lP b L xs) zY 20 m_LAW (lpc k) (llo (i : Int)) [] M v M') (k1 : (¬ ∃ k : Nat, k < 54 ∧ o_and (xs i).toInt 63 = (k : Int)) → EvP (lP b L xs) zY 20 m_LAW 1755 (llo (i : Int)) [] M v M') : EvP (lP b L xs) zY 20 m_LAW 27 (llo (i : Int)) [] M v M' := by
  refine L_blk k_LAW 2 (pc' := 29) (lo' := llo (i : Int)) (st' := [vI (i : Int), vR 998 9 0]) (M1 := M) (zrun_s (lent (pc := 27) (e := .aload_n 0) (by decide +kernel)) rfl (zrun_s (lent (pc := 28) (e := .iload_n 3) (by decide +kernel)) rfl rfl)) ?_
  refine L_ld k_LAW (lent (pc := 29) (e := .iaload) (by decide +kernel)) (by omega) (by omega) ?_
  have ei : ((i : Nat) : Int).toNat = i := rfl
  rw [ei]
  refine L_blk k_LAW 2 (pc' := 33) (lo' := llo (i : Int)) (st' := [vI (o_and (xs i).toInt 63)]) (M1 := M) (zrun_s (lenE (pc := 30) (e := .bipush 63) (rn := zN) (rz := 63) (by decide +kernel)) rfl (zrun_s (lent (pc := 32) (e := .iand) (by decide +kernel)) rfl rfl)) ?_
  obtain ⟨k, hk, e⟩ := o_and63 (xs i)
  have ht : lentB 33 (.tableswitch 1722 0 53 l_offs) = true := by decide +kernel
  by_cases hk2 : k < 54
  · have kk := k0 k hk2 e
    rw [e]
    have ho : ∀ q : Nat, q < 54 → l_offs[q]? = some ((lpc q : Int) - 33) := by decide +kernel
    have hz : ((k : Int) - 0).toNat = k := by omega
    refine L_tabIn (off := (lpc k : Int) - 33) k_LAW (lent ht) (lpc k) (by omega) (by omega) (by rw [hz]; exact ho k hk2) (by omega) kk
  · have kk := k1 (by
      rintro ⟨q, hq, e2⟩
      rw [e] at e2
      omega)
    rw [e]
    exact L_tabOut k_LAW (lent ht) 1755 (Or.inr (by omega)) (by decide) kk
theorem l_next (hi : i + 6 ≤ L) (hL : L ≤ 3072) (kk : EvP (lP b L xs) zY 20 m_LAW 18 (llo ((i + 6 : Nat) : Int)) [] M v M') : EvP (lP b L xs) zY 20 m_LAW 1755 (llo (i : Int)) [] M v M' := by
  have e : ((i + 6 : Nat) : Int) = o_add (i : Int) 6 := by rw [o_add_eq (by omega) (by omega)]; omega
  rw [e] at kk
  exact L_blk k_LAW 2 (pc' := 18) (lo' := llo (o_add (i : Int) 6)) (st' := []) (M1 := M) (zrun_s (lenE (pc := 1755) (e := .iinc 3 6) (rn := zN) (rz := 6) (by decide +kernel)) rfl (zrun_s (lenE (pc := 1758) (e := .goto (-1740)) (rn := (18, 0, 0, 0, 0, 0)) (rz := 0) (by decide +kernel)) rfl rfl)) kk
theorem l_loop (hL : L ≤ 3072) : ∀ (n i : Nat), i ≤ 3072 → L < i + 6 + n → ∀ M, RR M → ∃ M', EvP (lP b L xs) zY 20 m_LAW 18 (llo (i : Int)) [] M (some (vI 1)) M' := by
  intro n
  induction n with
  | zero =>
    intro i hi hn M hR
    refine ⟨M, l_head hi hL (fun _ => ?_) (fun h => absurd h (by omega))⟩
    refine L_blk k_LAW 1 (pc' := 1762) (lo' := llo (i : Int)) (st' := [vI 1]) (M1 := M) (zrun_s (lenE (pc := 1761) (e := .iconst 1) (rn := zN) (rz := 1) (by decide +kernel)) rfl rfl) ?_
    exact Z_ret ⟨Or.inr ⟨rfl, Or.inr rfl⟩, _, lent (pc := 1762) (e := .ireturn) (by decide +kernel)⟩ rfl
  | succ n ih =>
    intro i hi hn M hR
    by_cases h6 : i + 6 ≤ L
    · have next : ∀ M, RR M → ∃ M', EvP (lP b L xs) zY 20 m_LAW 1755 (llo (i : Int)) [] M (some (vI 1)) M' := fun M hR => by
        obtain ⟨M', h⟩ := ih (i + 6) (by omega) (by omega) M hR
        exact ⟨M', l_next h6 hL h⟩
      by_cases hk : ∃ k : Nat, k < 54 ∧ o_and (xs i).toInt 63 = (k : Int)
      · obtain ⟨k, hk1, hk2⟩ := hk
        obtain ⟨M', h⟩ := l_case h6 hL next k hk1 M hR
        refine ⟨M', l_head hi hL (fun h => absurd h (by omega)) (fun _ => l_disp h6 hL (fun q hq e => ?_) (fun h => absurd ⟨k, hk1, hk2⟩ h))⟩
        have : q = k := by
          rw [hk2] at e
          omega
        rw [this]
        exact h
      · obtain ⟨M', h⟩ := next M hR
        exact ⟨M', l_head hi hL (fun h => absurd h (by omega)) (fun _ => l_disp h6 hL (fun q hq e => absurd ⟨q, hq, e⟩ hk) (fun _ => h))⟩
    · refine ⟨M, l_head hi hL (fun _ => ?_) (fun h => absurd h h6)⟩
      refine L_blk k_LAW 1 (pc' := 1762) (lo' := llo (i : Int)) (st' := [vI 1]) (M1 := M) (zrun_s (lenE (pc := 1761) (e := .iconst 1) (rn := zN) (rz := 1) (by decide +kernel)) rfl rfl) ?_
      exact Z_ret ⟨Or.inr ⟨rfl, Or.inr rfl⟩, _, lent (pc := 1762) (e := .ireturn) (by decide +kernel)⟩ rfl
end LLoop
