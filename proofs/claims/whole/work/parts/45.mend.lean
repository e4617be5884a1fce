/-! MENDS -/
theorem testBit_sub {s u : Nat} (h : s &&& u = s) {w : Nat} (hw : s.testBit w = true) : u.testBit w = true := by
  have := congrArg (fun x => Nat.testBit x w) h
  simp only [Nat.testBit_and, hw, Bool.true_and] at this
  exact this
theorem pc_mono {s t : Nat} (h : ∀ w, s.testBit w = true → t.testBit w = true) : pc s ≤ pc t := cntB_mono 10 (fun i _ hi => h i hi)
theorem pc_lt {s t w : Nat} (h : ∀ w, s.testBit w = true → t.testBit w = true) (hw : w < 10) (h1 : t.testBit w = true) (h2 : s.testBit w = false) : pc s < pc t := cntB_lt 10 hw h1 h2 (fun i _ hi => h i hi)
theorem pc_and {s u : Nat} (hs : s < 1024) : pc (s &&& u) ≤ pc s ∧ (pc (s &&& u) = pc s → s &&& u = s) := by
  have hm : ∀ w, (s &&& u).testBit w = true → s.testBit w = true := by
    intro w h
    rw [Nat.testBit_and, Bool.and_eq_true] at h
    exact h.1
  refine ⟨pc_mono hm, fun he => ?_⟩
  apply Nat.eq_of_testBit_eq
  intro i
  cases h1 : s.testBit i
  · cases h2 : (s &&& u).testBit i
    · rfl
    · rw [hm i h2] at h1; cases h1
  · cases h2 : (s &&& u).testBit i
    · exfalso
      have hi : i < 10 := by
        apply Classical.byContradiction
        intro hn
        rw [nat_lt_bit (n := 10) hs (by omega)] at h1
        cases h1
      have := pc_lt hm hi h1 h2
      omega
    · rfl
theorem pc_top {n s : Nat} (hn : n ≤ 10) (hs : s < 2 ^ n) : pc s ≤ n ∧ (n ≤ pc s → ∀ w, w < n → s.testBit w = true) := by
  have e : pc s = cntB s.testBit n := cnt_small hs 10 hn
  rw [e]
  refine ⟨cntB_le _ _, fun h w hw => ?_⟩
  cases hb : s.testBit w
  · exfalso
    have h1 : cntB s.testBit n < cntB (fun _ => true) n := cntB_lt n hw rfl hb (fun _ _ _ => rfl)
    have h2 := cntB_le (fun _ => true) n
    omega
  · rfl
/-- two houses alike in what bears upon who is RUNG -/
theorem allB_congr {d e : Nat → Int} {a : Nat} : ∀ n, (∀ k, k < n → rungB d k = rungB e k) → allB d a n = allB e a n
  | 0, _ => rfl
  | n + 1, h => by
    unfold allB
    rw [allB_congr n (fun k hk => h k (by omega)), h n (by omega)]
theorem rung_congr {d e : Nat → Int} (h0 : d 0 = e 0) (h1 : d 1 = e 1) (h3 : d 3 = e 3) (hw : ∀ w : Nat, (w : Int) < e 1 → d (7 + w) = e (7 + w) ∧ d (17 + w) = e (17 + w) ∧ d (27 + w) = e (27 + w) ∧ d (37 + w) = e (37 + w)) (hk : ∀ j, 47 ≤ j → j < 59 → d j = e j) {k : Nat} (h6 : k < 6) : rungB d k = rungB e k := by
  unfold rungB FD
  rw [fD_cong h0 h1 hw, h3, hk (47 + k) (by omega) (by omega), hk (53 + k) (by omega) (by omega)]
theorem whole_bit {c : Nat → Int} {w : Nat} (hw : w < (c 1).toNat) : (wholeN c).testBit w = decide (c (37 + w) = 1) := by
  unfold wholeN
  rw [setB_bit]
  simp [hw, rowB]
/-- wires mended -/
def mQ (c : Nat → Int) (a s : Nat) : Bool := allB (cW c (wholeN c ||| s) s) a (c 2).toNat
theorem mQ_and {c : Nat → Int} (hI : Ic c) {a s : Nat} (h : mQ c a s = true) : mQ c a (s &&& mendN c) = true := by
  have h1 := hI.2.1
  have h2 := hI.2.2.1
  rw [← h]
  refine allB_congr _ (fun k hk => rung_congr ?_ ?_ ?_ (fun w hw => ⟨?_, ?_, ?_, ?_⟩) (fun j hj1 hj2 => ?_) (by omega))
  · rw [cW_lo c _ _ (by omega), cW_lo c _ _ (by omega)]
  · rw [cW_lo c _ _ (by omega), cW_lo c _ _ (by omega)]
  · rw [cW_lo c _ _ (by omega), cW_lo c _ _ (by omega)]
  · rw [cW_lo c _ _ (j := 1) (by omega)] at hw
    rw [cW_lo c _ _ (by omega), cW_lo c _ _ (by omega)]
  · rw [cW_lo c _ _ (j := 1) (by omega)] at hw
    rw [cW_lo c _ _ (by omega), cW_lo c _ _ (by omega)]
  · rw [cW_lo c _ _ (j := 1) (by omega)] at hw
    have hIw := Ic_w hI hw
    rw [cW_md c _ _ (by omega), cW_md c _ _ (by omega), Nat.testBit_and]
    cases hs : s.testBit w
    · rfl
    · have hm : (mendN c).testBit w = mendB c w := by
        unfold mendN
        rw [setB_bit]
        have : w < (c 1).toNat := by omega
        simp [this]
      rw [hm]
      by_cases g : c (37 + w) = 0 ∨ 0 < c (27 + w)
      · simp [mendB, g]
      · have g2 : c (27 + w) = 0 := by omega
        simp [g2]
  · rw [cW_lo c _ _ (j := 1) (by omega)] at hw
    have hIw := Ic_w hI hw
    rw [cW_wh c _ _ (by omega), cW_wh c _ _ (by omega), Nat.testBit_or, Nat.testBit_or, Nat.testBit_and]
    have hm : (mendN c).testBit w = mendB c w := by
      unfold mendN
      rw [setB_bit]
      have : w < (c 1).toNat := by omega
      simp [this]
    rw [hm, whole_bit (by omega)]
    by_cases g : c (37 + w) = 1
    · simp [g]
    · have g2 : c (37 + w) = 0 := by omega
      simp [g2, mendB]
  · rw [cW_lo c _ _ (by omega), cW_lo c _ _ (by omega)]
theorem cW_jn {c : Nat → Int} (hI : Ic c) {wh md w u v : Nat} : jn (cW c wh md) w u v ↔ (w : Int) < c 1 ∧ wh.testBit w = true ∧ (c (7 + w) = (u : Int) ∧ c (17 + w) = (v : Int) ∨ c (7 + w) = (v : Int) ∧ c (17 + w) = (u : Int)) := by
  have h1 := hI.2.1
  unfold jn
  rw [cW_lo c wh md (j := 1) (by omega)]
  constructor
  · rintro ⟨a, b, e⟩
    rw [cW_lo c _ _ (j := 7 + w) (by omega), cW_lo c _ _ (j := 17 + w) (by omega)] at e
    rw [cW_wh c _ _ (by omega)] at b
    refine ⟨a, ?_, e⟩
    cases hb : wh.testBit w
    · rw [hb] at b; simp at b
    · rfl
  · rintro ⟨a, b, e⟩
    refine ⟨a, ?_, ?_⟩
    · rw [cW_wh c _ _ (by omega), b]; rfl
    · rw [cW_lo c _ _ (j := 7 + w) (by omega), cW_lo c _ _ (j := 17 + w) (by omega)]; exact e
theorem mQ_mono {c : Nat → Int} (hI : Ic c) {a s t : Nat} (hst : ∀ w, s.testBit w = true → t.testBit w = true) (h : mQ c a s = true) : mQ c a t = true := by
  have h2 := hI.2.2.1
  have h1 := hI.2.1
  unfold mQ at h ⊢
  rw [allB_iff] at h ⊢
  intro k hk hb
  have hr := h k hk hb
  have hk2 := Ic_k hI (k := k) (by omega)
  rw [rung_cW _ _ k (by omega)] at hr ⊢
  have hr : FD (cW c (wholeN c ||| s) s) (c (47 + k)) (c (53 + k)) ≤ c 3 := of_decide_eq_true hr
  refine decide_eq_true ?_
  have hmono : FD (cW c (wholeN c ||| t) t) (c (47 + k)) (c (53 + k)) ≤ FD (cW c (wholeN c ||| s) s) (c (47 + k)) (c (53 + k)) := by
    refine fD_mono (Ic_cW hI _ _) (Ic_cW hI _ _) (by rw [cW_lo c _ _ (by omega), cW_lo c _ _ (by omega)]) (fun w u v hj => ⟨w, ?_, ?_⟩) (by rw [cW_lo c _ _ (by omega)]; omega) (by rw [cW_lo c _ _ (by omega)]; omega)
    · obtain ⟨j1, j2, j3⟩ := (cW_jn hI).mp hj
      refine (cW_jn hI).mpr ⟨j1, ?_, j3⟩
      rw [Nat.testBit_or, Bool.or_eq_true] at j2 ⊢
      exact j2.imp id (hst w)
    · obtain ⟨j1, j2, j3⟩ := (cW_jn hI).mp hj
      have hw := Ic_w hI j1
      rw [cW_md c _ _ (by omega), cW_md c _ _ (by omega)]
      cases hs : s.testBit w
      · simp only [Bool.false_eq_true, if_false]
        split <;> omega
      · rw [hst w hs]
        simp
  omega
/-- the model's search -/
def stepM (Q : Nat → Bool) (best : Int) (s : Nat) : Int := if ¬ best < 0 ∧ pc best.toNat ≤ pc s then best else if Q s then (s : Int) else best
def mendF (c : Nat → Int) (a : Nat) : Int := rg (2 ^ (c 1).toNat) (stepM (mQ c a)) (-1)
theorem stepM_inv (Q : Nat → Bool) : ∀ m, (rg m (stepM Q) (-1) = -1 ∧ ∀ s, s < m → Q s = false) ∨ ∃ b : Nat, rg m (stepM Q) (-1) = (b : Int) ∧ Least (fun s => Q s = true) m b := by
  intro m
  induction m with
  | zero => left; exact ⟨rfl, fun s h => by omega⟩
  | succ m ih =>
    rw [rg_succ]
    unfold stepM
    rcases ih with ⟨h1, h2⟩ | ⟨b, h1, h2, h3, h4⟩
    · have e0 : rg m (stepM Q) (-1) = -1 := h1
      unfold stepM at e0
      rw [e0, if_neg (by omega)]
      cases hq : Q m
      · left
        refine ⟨by simp, fun s hs => ?_⟩
        by_cases e : s = m
        · subst e; exact hq
        · exact h2 s (by omega)
      · right
        refine ⟨m, by simp, hq, by omega, fun s hs hp => ?_⟩
        by_cases e : s = m
        · subst e; exact Or.inr ⟨rfl, Nat.le_refl _⟩
        · replace hp : Q s = true := hp
          rw [h2 s (by omega)] at hp; cases hp
    · have e0 : rg m (stepM Q) (-1) = (b : Int) := h1
      unfold stepM at e0
      rw [e0, tnc]
      right
      by_cases g : pc b ≤ pc m
      · rw [if_pos ⟨by omega, g⟩]
        refine ⟨b, rfl, h2, by omega, fun s hs hp => ?_⟩
        by_cases e : s = m
        · subst e; omega
        · exact h4 s (by omega) hp
      · rw [if_neg (fun h => g h.2)]
        cases hq : Q m
        · simp only [Bool.false_eq_true, if_false]
          refine ⟨b, rfl, h2, by omega, fun s hs hp => ?_⟩
          by_cases e : s = m
          · subst e
            replace hp : Q s = true := hp
            rw [hq] at hp; cases hp
          · exact h4 s (by omega) hp
        · simp only [if_true]
          refine ⟨m, rfl, hq, by omega, fun s hs hp => ?_⟩
          by_cases e : s = m
          · subst e; exact Or.inr ⟨rfl, Nat.le_refl _⟩
          · have := h4 s (by omega) hp
            omega
theorem mendF_r {c : Nat → Int} {a : Nat} : (mendF c a = -1 ∧ ∀ s, s < 2 ^ (c 1).toNat → mQ c a s = false) ∨ ∃ b : Nat, mendF c a = (b : Int) ∧ Least (fun s => mQ c a s = true) (2 ^ (c 1).toNat) b := stepM_inv _ _
/-- the class finds the same -/
theorem x_leastMends {c : Nat → Int} {M : AM} (hI : Ic c) (hR : Rg c 23 M) {a : Nat} (ha : a < 1024) : Wp (f_X7_leastMends (a : Int) M) (fun r => r.1 = mendF c a ∧ Eo [64] M r.2) := by
  have h1 := hI.2.1
  have hun : mendN c < 2 ^ (c 1).toNat := setB_lt _ _
  have hu : mendN c < 1024 := lt1024 (by omega) hun
  have hwn : wholeN c < 1024 := lt1024 (n := (c 1).toNat) (by omega) (setB_lt _ _)
  have hlt : wholeN c ||| mendN c < 1024 := Nat.or_lt_two_pow (n := 10) hwn hu
  have hm := pow_le1024 (n := (c 1).toNat) (by omega)
  have hsub : ∀ s, (s &&& mendN c) &&& mendN c = s &&& mendN c := fun s => by rw [Nat.and_assoc, Nat.and_self]
  have hsl : ∀ s, s < 2 ^ (c 1).toNat → s < 1024 := fun s hs => by omega
  unfold f_X7_leastMends
  rw [x_mendable hI hR, bind_s]
  dsimp only
  have hor : o_or (M 23 7) ((mendN c : Nat) : Int) = ((wholeN c ||| mendN c : Nat) : Int) := by rw [x_whole hR, o_or_nat (by omega) (by omega)]
  rw [hor]
  refine wp_bind (x_allRung hI hR ha hlt hu) ?_
  rintro ⟨v, N⟩ ⟨hv, hE⟩
  replace hv : v = (if mQ c a (mendN c) then 1 else 0) := hv
  replace hE : Eo [64] M N := hE
  have hRN := Rg_64 hE hR
  cases hq : mQ c a (mendN c)
  · rw [hq] at hv
    replace hv : v = 0 := hv
    subst hv
    refine wp_neg (fun h => h rfl) (wp_some ⟨?_, hE⟩)
    rcases mendF_r (c := c) (a := a) with ⟨h, _⟩ | ⟨b, _, hb, _, _⟩
    · exact h.symm
    · exfalso
      have h3 := mQ_mono hI (s := b &&& mendN c) (t := mendN c) (fun w h => testBit_sub (hsub b) h) (mQ_and hI hb)
      rw [h3] at hq; cases hq
  · rw [hq] at hv
    replace hv : v = 1 := hv
    subst hv
    refine wp_pos (show ¬ (1 : Int) = 0 by decide) ?_
    dsimp only
    have e3 : N 23 3 = c 1 := hRN.1.2.2.2.1
    rw [e3, (shl1_b (n := c 1) (by omega)).1]
    refine wp_mono (x_mendSearch hI hRN ha hu) ?_
    rintro ⟨z, N2⟩ ⟨hE2, hz⟩
    refine ⟨?_, Eo_trans hE hE2⟩
    show z = mendF c a
    have hlift : ∀ r, Least (fun s => s &&& mendN c = s ∧ mQ c a s = true) (2 ^ (c 1).toNat) r → Least (fun s => mQ c a s = true) (2 ^ (c 1).toNat) r := by
      rintro r ⟨hr1, hr2, hr3⟩
      refine ⟨hr1.2, hr2, fun s hs hp => ?_⟩
      have a1 := hr3 (s &&& mendN c) (and_lt hs) ⟨hsub s, mQ_and hI hp⟩
      have a2 := pc_and (u := mendN c) (hsl s hs)
      by_cases e : pc (s &&& mendN c) = pc s
      · rw [a2.2 e] at a1; exact a1
      · omega
    have hfin : ∀ r, Least (fun s => mQ c a s = true) (2 ^ (c 1).toNat) r → ((r : Nat) : Int) = mendF c a := by
      intro r hr
      rcases mendF_r (c := c) (a := a) with ⟨_, h2⟩ | ⟨b, h2, h3⟩
      · have := h2 r hr.2.1
        rw [hr.1] at this; cases this
      · rw [h2, Least_eq hr h3]
    rcases hz with ⟨x, hx, hL⟩ | ⟨hx, hall⟩
    · replace hx : z = (x : Int) := hx
      rw [hx]
      exact hfin x (hlift x hL)
    · replace hx : z = ((mendN c : Nat) : Int) := hx
      rw [hx]
      refine hfin _ ⟨hq, hun, fun s hs hp => ?_⟩
      have a1 := hall (s &&& mendN c) (and_lt hs) ⟨hsub s, mQ_and hI hp⟩
      have a2 := pc_and (u := mendN c) (hsl s hs)
      have a3 := pc_top (n := (c 1).toNat) (by omega) hs
      have a4 := pc_top (n := (c 1).toNat) (by omega) hun
      have e : s &&& mendN c = s := a2.2 (by omega)
      have hall1 := a3.2 (by omega)
      right
      have hle : s = mendN c := by
        apply Nat.eq_of_testBit_eq
        intro i
        by_cases hi : i < (c 1).toNat
        · have := hall1 i hi
          rw [this, testBit_sub e this]
        · rw [nat_lt_bit hs (by omega), nat_lt_bit hun (by omega)]
      rw [hle]
      exact ⟨rfl, Nat.le_refl _⟩
