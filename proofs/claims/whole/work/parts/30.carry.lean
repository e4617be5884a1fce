/-! Wiring.carries: round by round it comes to FAR of the house as it would be -/
/-- the house with these wires whole, these mended -/
def cW (c : Nat → Int) (wh md : Nat) : Nat → Int := fun j => if 37 ≤ j ∧ j < 47 then (if wh.testBit (j - 37) then 1 else 0) else if 27 ≤ j ∧ j < 37 then (if md.testBit (j - 27) then 0 else c j) else c j
theorem cW_lo (c : Nat → Int) (wh md : Nat) {j : Nat} (h : j < 27 ∨ 47 ≤ j) : cW c wh md j = c j := by
  unfold cW; rw [if_neg (by omega), if_neg (by omega)]
theorem cW_wh (c : Nat → Int) (wh md : Nat) {w : Nat} (h : w < 10) : cW c wh md (37 + w) = if wh.testBit w then 1 else 0 := by
  unfold cW; rw [if_pos (by omega), Nat.add_sub_cancel_left]
theorem cW_md (c : Nat → Int) (wh md : Nat) {w : Nat} (h : w < 10) : cW c wh md (27 + w) = if md.testBit w then 0 else c (27 + w) := by
  unfold cW; rw [if_neg (by omega), if_pos (by omega), Nat.add_sub_cancel_left]
theorem Ic_cW {c : Nat → Int} (hI : Ic c) (wh md : Nat) : Ic (cW c wh md) := by
  obtain ⟨h0, h1, h2, h3, h4, h5, h6, h7, h8⟩ := hI
  unfold Ic
  simp only [cW_lo c wh md (j := 0) (by omega), cW_lo c wh md (j := 1) (by omega), cW_lo c wh md (j := 2) (by omega), cW_lo c wh md (j := 3) (by omega), cW_lo c wh md (j := 4) (by omega), cW_lo c wh md (j := 5) (by omega), cW_lo c wh md (j := 6) (by omega)]
  refine ⟨h0, h1, h2, h3, h4, h5, h6, fun w hw => ?_, fun k hk => ?_⟩
  · have := h7 w hw
    rw [cW_lo c wh md (j := 7 + w) (by omega), cW_lo c wh md (j := 17 + w) (by omega), cW_wh c wh md (by omega), cW_md c wh md (by omega)]
    refine ⟨this.1, this.2.1, ?_, ?_⟩
    · split
      · omega
      · exact this.2.2.1
    · split
      · exact Or.inr rfl
      · exact Or.inl rfl
  · have := h8 k hk
    rw [cW_lo c wh md (j := 47 + k) (by omega), cW_lo c wh md (j := 53 + k) (by omega), cW_lo c wh md (j := 59 + k) (by omega), cW_lo c wh md (j := 65 + k) (by omega), cW_lo c wh md (j := 71 + k) (by omega), cW_lo c wh md (j := 77 + k) (by omega)]
    exact this
def rlx (r : Nat → Int) (a b : Nat) (l : Int) : Nat → Int := if r a + l < r b then (fun v => if v = b then r a + l else r v) else if r b + l < r a then (fun v => if v = a then r b + l else r v) else r
def rlf (r : Nat → Int) (a b : Nat) (l : Int) : Int := if r a + l < r b then 1 else if r b + l < r a then 1 else 0
theorem rlx_le (r : Nat → Int) (a b : Nat) (l : Int) (v : Nat) : rlx r a b l v ≤ r v := by
  unfold rlx
  split
  · show (if v = b then r a + l else r v) ≤ r v
    split
    · rename_i e; subst e; omega
    · omega
  · split
    · show (if v = a then r b + l else r v) ≤ r v
      split
      · rename_i e; subst e; omega
      · omega
    · omega
theorem rlx_cases (r : Nat → Int) (a b : Nat) (l : Int) (v : Nat) : rlx r a b l v = r v ∨ (v = b ∧ rlx r a b l v = r a + l) ∨ (v = a ∧ rlx r a b l v = r b + l) := by
  unfold rlx
  split
  · by_cases e : v = b
    · right; left; exact ⟨e, if_pos e⟩
    · left; exact if_neg e
  · split
    · by_cases e : v = a
      · right; right; exact ⟨e, if_pos e⟩
      · left; exact if_neg e
    · left; rfl
theorem rlx_b {r : Nat → Int} {a b : Nat} {l : Int} (hl : 1 ≤ l) : rlx r a b l b ≤ r a + l ∧ rlx r a b l a ≤ r b + l := by
  unfold rlx
  split
  · show (if b = b then r a + l else r b) ≤ r a + l ∧ (if a = b then r a + l else r a) ≤ r b + l
    rw [if_pos rfl]
    refine ⟨by omega, ?_⟩
    split
    · rename_i e; subst e; omega
    · omega
  · split
    · show (if b = a then r b + l else r b) ≤ r a + l ∧ (if a = a then r b + l else r a) ≤ r b + l
      rw [if_pos rfl]
      refine ⟨?_, by omega⟩
      split
      · rename_i e; subst e; omega
      · omega
    · omega
theorem rlf_0 {r : Nat → Int} {a b : Nat} {l : Int} (h : rlf r a b l = 0) : rlx r a b l = r := by
  unfold rlf at h
  unfold rlx
  by_cases h1 : r a + l < r b
  · rw [if_pos h1] at h; omega
  · rw [if_neg h1] at h ⊢
    by_cases h2 : r b + l < r a
    · rw [if_pos h2] at h; omega
    · rw [if_neg h2]
theorem rlf_01 (r : Nat → Int) (a b : Nat) (l : Int) : rlf r a b l = 0 ∨ rlf r a b l = 1 := by
  unfold rlf; split
  · exact Or.inr rfl
  · split
    · exact Or.inr rfl
    · exact Or.inl rfl
theorem x_relax {M : AM} {r : Nat → Int} {a b : Nat} (ha : a < 8) (hb : b < 8) {l : Int} (h1 : 0 ≤ r a ∧ r a ≤ 1000) (h2 : 0 ≤ r b ∧ r b ≤ 1000) (h3 : 1 ≤ l ∧ l ≤ 10) :
    f_X7_relax (a : Int) (b : Int) l (am_row M 64 r) = some (rlf r a b l, am_row M 64 (rlx r a b l)) := by
  unfold f_X7_relax rlf rlx
  simp only [am_row_self, tnc]
  rw [if_pos (by omega), if_pos (by omega), o_add_eq (by omega) (by omega), o_add_eq (by omega) (by omega)]
  by_cases g1 : r a + l < r b
  · rw [if_neg (by omega), if_pos g1, if_pos g1, zlet_eq, am_row_upd]
  · rw [if_pos (by omega), if_neg g1, if_neg g1]
    by_cases g2 : r b + l < r a
    · rw [if_neg (by omega), if_pos g2, if_pos g2, zlet_eq, am_row_upd]
    · rw [if_pos (by omega), if_neg g2, if_neg g2]
/-- reach stays between FAR and what it was -/
def rok (c : Nat → Int) (s : Nat) (r : Nat → Int) : Prop := (∀ v, v < 8 → 0 ≤ r v ∧ r v ≤ 1000) ∧ r s = 0 ∧ ∀ v, v < (c 0).toNat → fD c s v ≤ r v
theorem rok_rlx {c : Nat → Int} (hI : Ic c) {s : Nat} (hs : s < (c 0).toNat) {r : Nat → Int} (h : rok c s r) {w u v : Nat} (hj : jn c w u v) : rok c s (rlx r u v (1 + c (27 + w))) := by
  obtain ⟨h1, h2, h3⟩ := h
  have h0 := hI.1
  have hl := jn_lt hI hj
  have hw := Ic_w hI hj.1
  have b1 := h1 u (by omega)
  have b2 := h1 v (by omega)
  have hb : ∀ x, x < 8 → 0 ≤ rlx r u v (1 + c (27 + w)) x ∧ rlx r u v (1 + c (27 + w)) x ≤ 1000 := by
    intro x hx
    have b3 := h1 x hx
    have b4 := rlx_le r u v (1 + c (27 + w)) x
    rcases rlx_cases r u v (1 + c (27 + w)) x with e | ⟨_, e⟩ | ⟨_, e⟩ <;> omega
  refine ⟨hb, ?_, fun x hx => ?_⟩
  · have b3 := hb s (by omega)
    have b4 := rlx_le r u v (1 + c (27 + w)) s
    omega
  · have b5 := h3 x hx
    rcases rlx_cases r u v (1 + c (27 + w)) x with e | ⟨ex, e⟩ | ⟨ex, e⟩
    · omega
    · subst ex
      have t1 := fD_tri hI hl.1 hs hl.2
      have t2 := fD_jn hI hj
      have t3 := h3 u hl.1
      omega
    · subst ex
      have t1 := fD_tri hI hl.2 hs hl.1
      have t2 := fD_jn hI (jn_comm hj)
      have t3 := h3 v hl.2
      omega
theorem cntB_mono {p p2 : Nat → Bool} : ∀ n, (∀ i, i < n → p2 i = true → p i = true) → cntB p2 n ≤ cntB p n
  | 0, _ => Nat.le_refl 0
  | n + 1, h => by
    have ih := cntB_mono n (fun i hi => h i (by omega))
    have h1 := h n (by omega)
    unfold cntB
    cases e2 : p2 n
    · simp only [Bool.false_eq_true, if_false]; split <;> omega
    · rw [if_pos rfl, if_pos (h1 e2)]; omega
theorem cntB_lt {p p2 : Nat → Bool} {v : Nat} : ∀ n, v < n → p v = true → p2 v = false → (∀ i, i < n → p2 i = true → p i = true) → cntB p2 n < cntB p n
  | 0, hv, _, _, _ => by omega
  | n + 1, hv, h1, h2, h => by
    unfold cntB
    by_cases e : v = n
    · subst e
      have := cntB_mono v (fun i hi => h i (by omega))
      rw [h1, h2]
      simp only [Bool.false_eq_true, if_false, if_true]
      omega
    · have ih := cntB_lt n (by omega) h1 h2 (fun i hi => h i (by omega))
      have h3 := h n (by omega)
      cases e2 : p2 n
      · simp only [Bool.false_eq_true, if_false]; split <;> omega
      · rw [if_pos rfl, if_pos (h3 e2)]; omega
theorem cntB_pos {p : Nat → Bool} : ∀ n, 0 < cntB p n → ∃ v, v < n ∧ p v = true
  | 0, h => by simp [cntB] at h
  | n + 1, h => by
    unfold cntB at h
    cases e : p n
    · rw [e] at h
      simp only [Bool.false_eq_true, if_false] at h
      obtain ⟨v, h1, h2⟩ := cntB_pos n h
      exact ⟨v, by omega, h2⟩
    · exact ⟨n, by omega, e⟩
theorem cntB_zero {p : Nat → Bool} {n : Nat} (h : cntB p n = 0) {v : Nat} (hv : v < n) : p v = false := by
  cases e : p v
  · rfl
  · exfalso
    have : cntB (fun _ => false) n < cntB p n := cntB_lt n hv e rfl (fun i _ h => by cases h)
    omega
def unsB (c : Nat → Int) (s : Nat) (r : Nat → Int) (v : Nat) : Bool := decide (¬ r v = fD c s v)
/-- some unsettled room has a settled one ahead of it on a shortest way -/
theorem uns_ex {c : Nat → Int} (hI : Ic c) {s : Nat} (hs : s < (c 0).toNat) {r : Nat → Int} (h : rok c s r) : ∀ (d : Nat) (v : Nat), v < (c 0).toNat → ¬ r v = fD c s v → fD c s v ≤ (d : Int) → ∃ v w u, v < (c 0).toNat ∧ ¬ r v = fD c s v ∧ jn c w u v ∧ fD c s v = fD c s u + (1 + c (27 + w)) ∧ r u = fD c s u := by
  intro d
  have h0 := hI.1
  induction d with
  | zero =>
    intro v hv hne hd
    have hz := fD_z hI hs
    have hb := fD_b hI s v
    by_cases e : s = v
    · subst e; rw [hz] at hne; exact absurd h.2.1 hne
    · obtain ⟨w, u, hj, e2⟩ := fD_pred hI hs hv e (by omega)
      have hw := Ic_w hI hj.1
      have hb2 := fD_b hI s u
      omega
  | succ d ih =>
    intro v hv hne hd
    have hz := fD_z hI hs
    have hb := fD_b hI s v
    have hr := h.1 v (by omega)
    have hr2 := h.2.2 v hv
    by_cases e : s = v
    · subst e; rw [hz] at hne; exact absurd h.2.1 hne
    · obtain ⟨w, u, hj, e2⟩ := fD_pred hI hs hv e (by omega)
      have hw := Ic_w hI hj.1
      by_cases g : r u = fD c s u
      · exact ⟨v, w, u, hv, hne, hj, e2, g⟩
      · exact ih u (jn_lt hI hj).1 g (by omega)
/-- what a round has done after i wires -/
def rnd (c : Nat → Int) (s : Nat) (r0 : Nat → Int) (i : Nat) (x : Int × (Nat → Int)) : Prop :=
  rok c s x.2 ∧ (∀ v, x.2 v ≤ r0 v) ∧ (∀ w u v, w < i → jn c w u v → x.2 v ≤ r0 u + (1 + c (27 + w))) ∧ (x.1 = 0 ∧ x.2 = r0 ∨ x.1 = 1)
theorem o_or01 {x y : Int} (hx : x = 0 ∨ x = 1) (hy : y = 0 ∨ y = 1) : o_or x y = if x = 0 ∧ y = 0 then 0 else 1 := by
  rcases hx with rfl | rfl <;> rcases hy with rfl | rfl <;> decide
theorem x_round {c : Nat → Int} {M : AM} (hI : Ic c) (hR : Rg c 23 M) {wh md : Nat} (hwh : wh < 1024) (hmd : md < 1024) {s : Nat} (hs : s < (c 0).toNat) (k : Int → Int → Int → Int → Int → AM → Option (Int × AM)) (t a7 : Int) {r0 : Nat → Int} (h0 : rok (cW c wh md) s r0) :
    ∃ x, rnd (cW c wh md) s r0 (c 1).toNat x ∧ f_X7_carries_61 k zB t (wh : Int) (md : Int) 0 a7 0 (am_row M 64 r0) = k t (wh : Int) (md : Int) x.1 (o_add a7 1) (am_row M 64 x.2) := by
  have hc0 := hI.1
  have hc1 := hI.2.1
  have hI2 := Ic_cW hI wh md
  have h23 : ∀ r, am_row M 64 r 23 = M 23 := fun r => am_row_ne (by decide)
  have h24 : ∀ r, am_row M 64 r 24 = M 24 := fun r => am_row_ne (by decide)
  have h25 : ∀ r, am_row M 64 r 25 = M 25 := fun r => am_row_ne (by decide)
  have h26 : ∀ r, am_row M 64 r 26 = M 26 := fun r => am_row_ne (by decide)
  have e0 : cW c wh md 0 = c 0 := cW_lo c wh md (by omega)
  have e1 : cW c wh md 1 = c 1 := cW_lo c wh md (by omega)
  -- the states of the loop, one after the other
  have key : ∀ (i : Nat), i ≤ (c 1).toNat → ∃ x : Int × (Nat → Int), rnd (cW c wh md) s r0 i x ∧ ∀ n, f_X7_carries_61 k (n + i) t (wh : Int) (md : Int) 0 a7 0 (am_row M 64 r0) = f_X7_carries_61 k n t (wh : Int) (md : Int) x.1 a7 (i : Int) (am_row M 64 x.2) := by
    intro i
    induction i with
    | zero => intro _; exact ⟨(0, r0), ⟨h0, fun v => Int.le_refl _, fun w u v h => by omega, Or.inl ⟨rfl, rfl⟩⟩, fun n => rfl⟩
    | succ i ih =>
      intro hi
      obtain ⟨⟨fl, r⟩, ⟨i1, i2, i3, i4⟩, ih2⟩ := ih (by omega)
      have hw := Ic_w hI (w := i) (by omega)
      obtain ⟨w1, w2, w3⟩ := hR.2.1 i (by omega)
      obtain ⟨o, ho⟩ : ∃ o : Nat, c (7 + i) = (o : Int) := ⟨(c (7 + i)).toNat, by omega⟩
      obtain ⟨t2, ht⟩ : ∃ t : Nat, c (17 + i) = (t : Int) := ⟨(c (17 + i)).toNat, by omega⟩
      have hstep : ∀ n, f_X7_carries_61 k (n + (i + 1)) t (wh : Int) (md : Int) 0 a7 0 (am_row M 64 r0) = f_X7_carries_61 k (n + 1) t (wh : Int) (md : Int) fl a7 (i : Int) (am_row M 64 r) := by
        intro n
        have := ih2 (n + 1)
        rw [show n + (i + 1) = n + 1 + i by omega]
        exact this
      by_cases hb : wh.testBit i
      · have hj : jn (cW c wh md) i o t2 := by
          refine ⟨by rw [e1]; omega, by rw [cW_wh c wh md (by omega), if_pos hb], Or.inl ⟨?_, ?_⟩⟩
          · rw [cW_lo c wh md (by omega)]; exact ho
          · rw [cW_lo c wh md (by omega)]; exact ht
        have hlen : cW c wh md (27 + i) = if md.testBit i then 0 else c (27 + i) := cW_md c wh md (by omega)
        have hr := i1.1
        have hlw := (Ic_w hI2 hj.1).2.2.1
        have hx := x_relax (M := M) (r := r) (a := o) (b := t2) (by omega) (by omega) (l := 1 + cW c wh md (27 + i)) (hr o (by omega)) (hr t2 (by omega)) (by omega)
        refine ⟨(o_or fl (rlf r o t2 (1 + cW c wh md (27 + i))), rlx r o t2 (1 + cW c wh md (27 + i))), ⟨rok_rlx hI2 hs i1 hj, ?_, ?_, ?_⟩, fun n => ?_⟩
        · intro v
          have g1 := rlx_le r o t2 (1 + cW c wh md (27 + i)) v
          have g2 : r v ≤ r0 v := i2 v
          show rlx r o t2 (1 + cW c wh md (27 + i)) v ≤ r0 v
          omega
        · intro w u v hwi hjw
          show rlx r o t2 (1 + cW c wh md (27 + i)) v ≤ r0 u + (1 + cW c wh md (27 + w))
          have g1 := rlx_le r o t2 (1 + cW c wh md (27 + i)) v
          by_cases e : w = i
          · subst e
            have g2 := rlx_b (r := r) (a := o) (b := t2) (l := 1 + cW c wh md (27 + w)) (by omega)
            have g3 := i2 o
            have g4 := i2 t2
            have hj3 := hjw.2.2
            rw [cW_lo c wh md (j := 7 + w) (by omega), cW_lo c wh md (j := 17 + w) (by omega), ho, ht] at hj3
            rcases hj3 with ⟨e3, e4⟩ | ⟨e3, e4⟩
            · have e3 : o = u := by omega
              have e4 : t2 = v := by omega
              subst e3 e4
              have g3 : r o ≤ r0 o := g3
              omega
            · have e3 : o = v := by omega
              have e4 : t2 = u := by omega
              subst e3 e4
              have g4 : r t2 ≤ r0 t2 := g4
              omega
          · have g5 : r v ≤ r0 u + (1 + cW c wh md (27 + w)) := i3 w u v (by omega) hjw
            omega
        · have g1 := rlf_01 r o t2 (1 + cW c wh md (27 + i))
          have g2 : fl = 0 ∨ fl = 1 := by
            rcases i4 with h | h
            · exact Or.inl h.1
            · exact Or.inr h
          show o_or fl _ = 0 ∧ rlx r o t2 _ = r0 ∨ o_or fl _ = 1
          rw [o_or01 g2 g1]
          by_cases g3 : fl = 0 ∧ rlf r o t2 (1 + cW c wh md (27 + i)) = 0
          · rw [if_pos g3]
            left
            refine ⟨rfl, ?_⟩
            rw [rlf_0 g3.2]
            rcases i4 with h | h
            · exact h.2
            · have h : fl = 1 := h
              omega
          · rw [if_neg g3]; exact Or.inr rfl
        · rw [hstep]
          simp only [f_X7_carries_61, h23, h26]
          rw [hR.1.2.2.2.1, if_neg (by omega), o_bit hwh (by omega), if_pos hb, if_neg (by omega), o_bit hmd (by omega)]
          by_cases hm : md.testBit i
          · rw [if_pos hm] at hlen
            rw [if_pos hm, if_neg (by omega)]
            unfold f_X7_carries_103
            rw [if_pos (by omega), h24, h25, tnc, w1, w2, ho, ht]
            have e : (1 : Int) = 1 + cW c wh md (27 + i) := by omega
            rw [hlen] at hx ⊢
            rw [show (1 : Int) + 0 = 1 from rfl] at hx ⊢
            rw [hx, bind_s, o_succ (by omega)]
          · rw [if_neg hm] at hlen
            rw [if_neg hm, if_pos rfl, if_pos (by omega)]
            unfold f_X7_carries_103
            rw [if_pos (by omega), h24, h25, tnc, w1, w2, w3, ho, ht, o_add_eq (x := 1) (by omega) (by omega)]
            rw [hlen] at hx ⊢
            rw [hx, bind_s, o_succ (by omega)]
      · refine ⟨(fl, r), ⟨i1, i2, fun w u v hwi hjw => ?_, i4⟩, fun n => ?_⟩
        · by_cases e : w = i
          · subst e
            have := hjw.2.1
            rw [cW_wh c wh md (by omega), if_neg hb] at this
            omega
          · exact i3 w u v (by omega) hjw
        · rw [hstep]
          simp only [f_X7_carries_61, h23]
          rw [hR.1.2.2.2.1, if_neg (by omega), o_bit hwh (by omega), if_neg hb, if_pos rfl, o_succ (by omega)]
  obtain ⟨x, hx, hk⟩ := key (c 1).toNat (Nat.le_refl _)
  refine ⟨x, hx, ?_⟩
  have hz : zB = 1999999 - (c 1).toNat + 1 + (c 1).toNat := by unfold zB; omega
  rw [hz, hk]
  simp only [f_X7_carries_61, h23]
  rw [hR.1.2.2.2.1, if_pos (by omega)]
theorem rnd_keep {c : Nat → Int} {s : Nat} {r0 : Nat → Int} {i : Nat} {x : Int × (Nat → Int)} (h0 : rok c s r0) (hx : rnd c s r0 i x) {v : Nat} (hv : v < (c 0).toNat) (h : r0 v = fD c s v) : x.2 v = fD c s v := by
  have h1 := hx.2.1 v
  have h2 := hx.1.2.2 v hv
  omega
theorem rnd_less {c : Nat → Int} (hI : Ic c) {s : Nat} (hs : s < (c 0).toNat) {r0 : Nat → Int} {x : Int × (Nat → Int)} (h0 : rok c s r0) (hx : rnd c s r0 (c 1).toNat x) (hu : 0 < cntB (unsB c s r0) (c 0).toNat) : cntB (unsB c s x.2) (c 0).toNat < cntB (unsB c s r0) (c 0).toNat := by
  obtain ⟨v0, hv0, hp⟩ := cntB_pos _ hu
  have hp : ¬ r0 v0 = fD c s v0 := by simpa [unsB] using hp
  have hb := fD_b hI s v0
  obtain ⟨v, w, u, hv, hne, hj, e1, e2⟩ := uns_ex hI hs h0 (fD c s v0).toNat v0 hv0 hp (by omega)
  have h3 := hx.2.2.1 w u v (by have := hj.1; omega) hj
  have h4 := hx.1.2.2 v hv
  refine cntB_lt _ hv (by simpa [unsB] using hne) ?_ ?_
  · have : x.2 v = fD c s v := by omega
    simp [unsB, this]
  · intro i hi hq
    have hq : ¬ x.2 i = fD c s i := by simpa [unsB] using hq
    have : ¬ r0 i = fD c s i := fun e => hq (rnd_keep h0 hx hi e)
    simpa [unsB] using this
theorem rnd_zero {c : Nat → Int} {s : Nat} {r0 : Nat → Int} {i : Nat} {x : Int × (Nat → Int)} (h0 : rok c s r0) (hx : rnd c s r0 i x) (hu : cntB (unsB c s r0) (c 0).toNat = 0) : cntB (unsB c s x.2) (c 0).toNat = 0 := by
  have : cntB (unsB c s x.2) (c 0).toNat ≤ cntB (unsB c s r0) (c 0).toNat := by
    refine cntB_mono _ (fun i hi hq => ?_)
    have hq : ¬ x.2 i = fD c s i := by simpa [unsB] using hq
    have : ¬ r0 i = fD c s i := fun e => hq (rnd_keep h0 hx hi e)
    simpa [unsB] using this
  omega
/-- carries is FAR of the house as it would be -/
theorem x_carries {c : Nat → Int} {M : AM} (hI : Ic c) (hR : Rg c 23 M) {wh md : Nat} (hwh : wh < 1024) (hmd : md < 1024) {x y : Int} (hx : 0 ≤ x ∧ x < c 0) (hy : 0 ≤ y ∧ y < c 0) :
    ∃ N, f_X7_carries x y (wh : Int) (md : Int) M = some (if FD (cW c wh md) x y ≤ c 3 then 1 else 0, N) ∧ Eo [64] M N := by
  have hc0 := hI.1
  have hI2 := Ic_cW hI wh md
  have e0 : cW c wh md 0 = c 0 := cW_lo c wh md (by omega)
  have e1 : cW c wh md 1 = c 1 := cW_lo c wh md (by omega)
  obtain ⟨s, rfl⟩ : ∃ s : Nat, x = (s : Int) := ⟨x.toNat, by omega⟩
  obtain ⟨t, rfl⟩ : ∃ t : Nat, y = (t : Int) := ⟨y.toNat, by omega⟩
  have hs : s < (cW c wh md 0).toNat := by rw [e0]; omega
  have ht : t < (cW c wh md 0).toNat := by rw [e0]; omega
  have h23 : ∀ r, am_row M 64 r 23 = M 23 := fun r => am_row_ne (by decide)
  unfold f_X7_carries
  rw [x_isRoom, bind_s, hR.1.2.2.1, if_pos hx]
  simp only [show ¬ (1 : Int) = 0 by decide, if_false]
  rw [x_isRoom, bind_s, hR.1.2.2.1, if_pos hy]
  simp only [show ¬ (1 : Int) = 0 by decide, not_false_eq_true, if_true]
  rw [J7_fill _ _ (by omega), bind_s, if_pos (by omega), zlet_eq, tnc, am_row_upd]
  generalize hr : (fun b => if b = s then (0 : Int) else if b < 8 then 1000 else M 64 b) = r0
  have hrok : rok (cW c wh md) s r0 := by
    subst hr
    refine ⟨fun v hv => ?_, ?_, fun v hv => ?_⟩
    · show 0 ≤ (if v = s then (0 : Int) else if v < 8 then 1000 else M 64 v) ∧ (if v = s then (0 : Int) else if v < 8 then 1000 else M 64 v) ≤ 1000
      rw [if_pos hv]
      split <;> omega
    · exact if_pos rfl
    · show fD (cW c wh md) s v ≤ (if v = s then (0 : Int) else if v < 8 then 1000 else M 64 v)
      have hb := fD_b hI2 s v
      by_cases e : v = s
      · rw [if_pos e, e]
        have := fD_z hI2 hs
        omega
      · rw [if_neg e, if_pos (by omega)]
        omega
  have hw : Wp (f_X7_carries_41 zB (t : Int) (wh : Int) (md : Int) 1 1 (am_row M 64 r0)) (fun r => r.1 = (if FD (cW c wh md) (s : Int) (t : Int) ≤ c 3 then 1 else 0) ∧ Eo [64] M r.2) := by
    have hdone : ∀ r, rok (cW c wh md) s r → cntB (unsB (cW c wh md) s r) (cW c wh md 0).toNat = 0 → Wp (f_X7_carries_142 (t : Int) (am_row M 64 r)) (fun r => r.1 = (if FD (cW c wh md) (s : Int) (t : Int) ≤ c 3 then 1 else 0) ∧ Eo [64] M r.2) := by
      intro r hr hu
      have hset : r t = fD (cW c wh md) s t := by simpa [unsB] using cntB_zero hu ht
      unfold f_X7_carries_142
      rw [if_pos (by omega), h23, am_row_self, tnc, hset, hR.1.1]
      have eF : FD (cW c wh md) (s : Int) (t : Int) = fD (cW c wh md) s t := by unfold FD; rw [tnc, tnc]
      rw [eF]
      have hE : Eo [64] M (am_row M 64 r) := Eo_row _ (by simp) (Eo_refl _ _)
      by_cases g : fD (cW c wh md) s t ≤ c 3
      · rw [if_neg (by omega), if_pos g]; exact wp_some ⟨rfl, hE⟩
      · rw [if_pos (by omega), if_neg g]; exact wp_some ⟨rfl, hE⟩
    refine up_loopP0 (fun n i (z : Int × (Nat → Int)) => f_X7_carries_41 n (t : Int) (wh : Int) (md : Int) z.1 ((1 + i : Nat) : Int) (am_row M 64 z.2))
      (fun i z => rok (cW c wh md) s z.2 ∧ (z.1 = 0 ∧ cntB (unsB (cW c wh md) s z.2) (cW c wh md 0).toNat = 0 ∨ z.1 = 1 ∧ cntB (unsB (cW c wh md) s z.2) (cW c wh md 0).toNat ≤ (c 0).toNat - 1 - i)) _ ((c 0).toNat - 1) (1, r0) ?_ ?_ ?_ (by omega)
    · refine ⟨hrok, Or.inr ⟨rfl, ?_⟩⟩
      have h1 : cntB (unsB (cW c wh md) s r0) (cW c wh md 0).toNat < cntB (fun _ => true) (cW c wh md 0).toNat := by
        refine cntB_lt _ hs rfl ?_ (fun _ _ _ => rfl)
        have := fD_z hI2 hs
        simp [unsB, hrok.2.1, this]
      have h2 := cntB_le (fun _ => true) (cW c wh md 0).toNat
      rw [e0] at h1 h2 ⊢
      show cntB (unsB (cW c wh md) s r0) (c 0).toNat ≤ (c 0).toNat - 1 - 0
      omega
    · rintro n i ⟨fl, r⟩ hi ⟨hk, hf⟩
      have hk : rok (cW c wh md) s r := hk
      show (∃ s2 : Int × (Nat → Int), _ ∧ f_X7_carries_41 (n + 1) _ _ _ fl _ (am_row M 64 r) = _) ∨ Wp (f_X7_carries_41 (n + 1) (t : Int) (wh : Int) (md : Int) fl ((1 + i : Nat) : Int) (am_row M 64 r)) _
      simp only [f_X7_carries_41, h23]
      rw [hR.1.2.2.1, if_neg (by omega)]
      rcases hf with ⟨f0, hu⟩ | ⟨f1, hu⟩
      · right
        have f0 : fl = 0 := f0
        rw [if_pos f0]
        exact hdone r hk hu
      · left
        have f1 : fl = 1 := f1
        have hu : cntB (unsB (cW c wh md) s r) (cW c wh md 0).toNat ≤ (c 0).toNat - 1 - i := hu
        rw [if_neg (by omega)]
        obtain ⟨z, hz, ez⟩ := x_round hI hR hwh hmd (by rw [e0] at hs; exact hs) (f_X7_carries_41 n) (t : Int) ((1 + i : Nat) : Int) hk
        rw [← e1] at hz
        refine ⟨z, ⟨hz.1, ?_⟩, ?_⟩
        · by_cases hu0 : 0 < cntB (unsB (cW c wh md) s r) (cW c wh md 0).toNat
          · have hless := rnd_less hI2 hs hk hz hu0
            rcases hz.2.2.2 with ⟨g1, g2⟩ | g1
            · rw [g2] at hless; omega
            · exact Or.inr ⟨g1, by omega⟩
          · have hzero := rnd_zero hk hz (by omega)
            rcases hz.2.2.2 with ⟨g1, g2⟩ | g1
            · exact Or.inl ⟨g1, hzero⟩
            · exact Or.inr ⟨g1, by omega⟩
        · rw [ez, o_add_eq (by omega) (by omega)]
          congr 1
    · rintro n ⟨fl, r⟩ ⟨hk, hf⟩
      show Wp (f_X7_carries_41 (n + 1) (t : Int) (wh : Int) (md : Int) fl ((1 + ((c 0).toNat - 1) : Nat) : Int) (am_row M 64 r)) _
      simp only [f_X7_carries_41, h23]
      rw [hR.1.2.2.1, if_pos (by omega)]
      refine hdone r hk ?_
      rcases hf with ⟨_, hu⟩ | ⟨_, hu⟩
      · exact hu
      · have hu : cntB (unsB (cW c wh md) s r) (cW c wh md 0).toNat ≤ (c 0).toNat - 1 - ((c 0).toNat - 1) := hu
        omega
  obtain ⟨⟨v, N⟩, e, h1, h2⟩ := hw
  exact ⟨N, by rw [e]; show some (v, N) = _; rw [show v = _ from h1], h2⟩
