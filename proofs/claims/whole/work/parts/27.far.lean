/-! FAR: what all lengths between rooms obey -/
def bD (D : MX) : Prop := ∀ p q, 0 ≤ D p q ∧ D p q ≤ 1000
def zD (n : Nat) (D : MX) : Prop := ∀ p, p < n → D p p = 0
def sD (D : MX) : Prop := ∀ p q, D p q = D q p
def fws (n m : Nat) (D : MX) : MX := fun a b => if a < n ∧ b < n then min (D a b) (D a m + D m b) else D a b
theorem fwp_eq {D : MX} {m : Nat} (p : Nat) (h : D m m = 0) : ∀ i, rg i (fwq m p) D = fun a b => if a = p ∧ b < i then min (D p b) (D p m + D m b) else D a b := by
  intro i
  induction i with
  | zero => rw [rg_zero]; funext a b; simp
  | succ i ih =>
    have hE : ∀ x y, rg i (fwq m p) D x y = if x = p ∧ y < i then min (D p y) (D p m + D m y) else D x y := fun x y => by rw [ih]
    rw [rg_succ]
    clear ih
    generalize rg i (fwq m p) D = E at hE
    funext a b
    show (if a = p ∧ b = i then min (E p i) (E p m + E m i) else E a b) = _
    by_cases h1 : a = p ∧ b = i
    · obtain ⟨rfl, rfl⟩ := h1
      have e1 : E a b = D a b := by rw [hE, if_neg (by omega)]
      have e2 : E a m = D a m := by
        rw [hE]
        split
        · omega
        · rfl
      have e3 : E m b = D m b := by rw [hE, if_neg (by omega)]
      rw [if_pos ⟨rfl, rfl⟩, e1, e2, e3, if_pos ⟨rfl, by omega⟩]
    · rw [if_neg h1, hE]
      by_cases h2 : a = p ∧ b < i
      · rw [if_pos h2, if_pos ⟨h2.1, by omega⟩]
      · rw [if_neg h2, if_neg]
        rintro ⟨h3, h4⟩
        by_cases h5 : b = i
        · exact h1 ⟨h3, h5⟩
        · exact h2 ⟨h3, by omega⟩
theorem fwm_eq {D : MX} {m : Nat} (n : Nat) (h : D m m = 0) : ∀ j, rg j (fwp n m) D = fun a b => if a < j ∧ b < n then min (D a b) (D a m + D m b) else D a b := by
  intro j
  induction j with
  | zero => rw [rg_zero]; funext a b; simp
  | succ j ih =>
    have hE : ∀ x y, rg j (fwp n m) D x y = if x < j ∧ y < n then min (D x y) (D x m + D m y) else D x y := fun x y => by rw [ih]
    rw [rg_succ]
    clear ih
    generalize rg j (fwp n m) D = E at hE
    have h2 : E m m = 0 := by
      rw [hE]
      split <;> omega
    have h3 : fwp n m E j = _ := fwp_eq j h2 n
    rw [h3]
    funext a b
    show (if a = j ∧ b < n then min (E j b) (E j m + E m b) else E a b) = _
    by_cases h1 : a = j ∧ b < n
    · have e1 : E j b = D j b := by rw [hE, if_neg (by omega)]
      have e2 : E j m = D j m := by rw [hE, if_neg (by omega)]
      have e3 : E m b = D m b := by
        rw [hE]
        split
        · omega
        · rfl
      rw [if_pos h1, if_pos ⟨by omega, h1.2⟩, e1, e2, e3, h1.1]
    · rw [if_neg h1, hE]
      by_cases h3 : a < j ∧ b < n
      · rw [if_pos h3, if_pos ⟨by omega, h3.2⟩]
      · rw [if_neg h3, if_neg]
        rintro ⟨h4, h5⟩
        by_cases h6 : a = j
        · exact h1 ⟨h6, h5⟩
        · exact h3 ⟨by omega, h5⟩
theorem fwm_fws {D : MX} {m : Nat} (n : Nat) (h : D m m = 0) : fwm n D m = fws n m D := fwm_eq n h n
theorem bD_fws {D : MX} {n m : Nat} (h : bD D) : bD (fws n m D) := by
  intro p q
  unfold fws
  have h1 := h p q
  have h2 := h p m
  have h3 := h m q
  split <;> omega
theorem zD_fws {D : MX} {n m : Nat} (hb : bD D) (h : zD n D) : zD n (fws n m D) := by
  intro p hp
  unfold fws
  have h1 := h p hp
  have h2 := hb p m
  have h3 := hb m p
  split <;> omega
theorem sD_fws {D : MX} {n m : Nat} (h : sD D) : sD (fws n m D) := by
  intro p q
  unfold fws
  rw [h p q, h p m, h m q]
  by_cases h1 : p < n ∧ q < n
  · rw [if_pos h1, if_pos ⟨h1.2, h1.1⟩]; omega
  · rw [if_neg h1, if_neg (fun h => h1 ⟨h.2, h.1⟩)]
/-- the wires laid -/
theorem bD_mxw {D : MX} {o t : Nat} {l : Int} (h : bD D) (hl : 0 ≤ l) : bD (mxw D o t l) := by
  intro p q
  have h1 := h o t
  have h2 := h p q
  unfold mxw mxs
  split
  · omega
  · split <;> omega
theorem zD_mxw {D : MX} {n o t : Nat} {l : Int} (h : zD n D) (hl : 0 ≤ l) : zD n (mxw D o t l) := by
  intro p hp
  have h1 := h p hp
  unfold mxw mxs
  split
  · rename_i h2
    obtain ⟨rfl, rfl⟩ := h2
    omega
  · split
    · rename_i h2
      obtain ⟨rfl, rfl⟩ := h2
      omega
    · exact h1
theorem sD_mxw {D : MX} {o t : Nat} {l : Int} (h : sD D) : sD (mxw D o t l) := by
  intro p q
  unfold mxw mxs
  by_cases h1 : p = t ∧ q = o
  · by_cases h2 : q = t ∧ p = o
    · rw [if_pos h1, if_pos h2]
    · rw [if_pos h1, if_neg h2, if_pos ⟨h1.2, h1.1⟩]
  · by_cases h2 : q = t ∧ p = o
    · rw [if_neg h1, if_pos ⟨h2.2, h2.1⟩, if_pos h2]
    · rw [if_neg h1, if_neg (fun h => h2 ⟨h.2, h.1⟩), if_neg h2, if_neg (fun h => h1 ⟨h.2, h.1⟩)]
      exact h p q
/-- wire w joins u and v -/
def jn (c : Nat → Int) (w u v : Nat) : Prop := (w : Int) < c 1 ∧ c (37 + w) = 1 ∧ (c (7 + w) = (u : Int) ∧ c (17 + w) = (v : Int) ∨ c (7 + w) = (v : Int) ∧ c (17 + w) = (u : Int))
theorem jn_comm {c : Nat → Int} {w u v : Nat} (h : jn c w u v) : jn c w v u := ⟨h.1, h.2.1, h.2.2.elim Or.inr Or.inl⟩
theorem Ic_w {c : Nat → Int} (h : Ic c) {w : Nat} (hw : (w : Int) < c 1) : (0 ≤ c (7 + w) ∧ c (7 + w) < c 0) ∧ (0 ≤ c (17 + w) ∧ c (17 + w) < c 0) ∧ (0 ≤ c (27 + w) ∧ c (27 + w) ≤ 9) ∧ (c (37 + w) = 0 ∨ c (37 + w) = 1) := h.2.2.2.2.2.2.2.1 w hw
theorem jn_lt {c : Nat → Int} (hI : Ic c) {w u v : Nat} (h : jn c w u v) : u < (c 0).toNat ∧ v < (c 0).toNat := by
  have h1 := Ic_w hI h.1
  rcases h.2.2 with ⟨h2, h3⟩ | ⟨h2, h3⟩ <;> constructor <;> omega
/-- the lengths after k wires -/
def mxk (c : Nat → Int) (k : Nat) : MX := rg k (mxwire c) mx0
def mok (c : Nat → Int) (k : Nat) (D : MX) : Prop := bD D ∧ zD (c 0).toNat D ∧ sD D ∧ (∀ w u v, w < k → jn c w u v → D u v ≤ 1 + c (27 + w)) ∧
  (∀ f : Nat → Int, (∀ p q, p < (c 0).toNat → q < (c 0).toNat → f q - f p ≤ 1000) → (∀ w u v, jn c w u v → f v - f u ≤ 1 + c (27 + w)) → ∀ p q, p < (c 0).toNat → q < (c 0).toNat → f q - f p ≤ D p q)
theorem mok_0 (c : Nat → Int) : mok c 0 mx0 := by
  refine ⟨fun p q => ?_, fun p _ => ?_, fun p q => ?_, fun w u v h => ?_, fun f h1 _ p q hp hq => ?_⟩
  · unfold mx0; split <;> omega
  · simp [mx0]
  · unfold mx0
    by_cases h : p = q
    · simp [h]
    · have h2 : ¬ q = p := fun e => h e.symm
      simp [h, h2]
  · omega
  · unfold mx0
    split
    · rename_i e; subst e; omega
    · exact h1 p q hp hq
theorem mok_wire {c : Nat → Int} (hI : Ic c) {k : Nat} (hk : (k : Int) < c 1) {D : MX} (h : mok c k D) : mok c (k + 1) (mxwire c D k) := by
  obtain ⟨h1, h2, h3, h4, h5⟩ := h
  have hw := Ic_w hI hk
  unfold mxwire
  by_cases h0 : c (37 + k) = 0
  · rw [if_pos h0]
    refine ⟨h1, h2, h3, fun w u v hwk hj => ?_, h5⟩
    by_cases e : w = k
    · subst e
      have := hj.2.1
      omega
    · exact h4 w u v (by omega) hj
  · rw [if_neg h0]
    obtain ⟨o, ho⟩ : ∃ o : Nat, c (7 + k) = (o : Int) := ⟨(c (7 + k)).toNat, by omega⟩
    obtain ⟨t, ht⟩ : ∃ t : Nat, c (17 + k) = (t : Int) := ⟨(c (17 + k)).toNat, by omega⟩
    rw [ho, ht, tnc, tnc]
    have hle : ∀ p q, mxw D o t (1 + c (27 + k)) p q ≤ D p q := by
      intro p q
      have e := h3 o t
      unfold mxw mxs
      split
      · rename_i e1
        obtain ⟨rfl, rfl⟩ := e1
        omega
      · split
        · rename_i e1
          obtain ⟨rfl, rfl⟩ := e1
          omega
        · omega
    refine ⟨bD_mxw h1 (by omega), zD_mxw h2 (by omega), sD_mxw h3, fun w u v hwk hj => ?_, fun f hf1 hf2 p q hp hq => ?_⟩
    · by_cases e : w = k
      · subst e
        have hj2 := hj.2.2
        rw [ho, ht] at hj2
        unfold mxw mxs
        rcases hj2 with ⟨e1, e2⟩ | ⟨e1, e2⟩
        · have e1 : o = u := by omega
          have e2 : t = v := by omega
          subst e1 e2
          split
          · omega
          · rw [if_pos ⟨rfl, rfl⟩]; omega
        · have e1 : o = v := by omega
          have e2 : t = u := by omega
          subst e1 e2
          rw [if_pos ⟨rfl, rfl⟩]; omega
      · have := h4 w u v (by omega) hj
        have := hle u v
        omega
    · have hj : jn c k o t := ⟨hk, by omega, Or.inl ⟨ho, ht⟩⟩
      have a1 := hf2 k o t hj
      have a2 := hf2 k t o (jn_comm hj)
      have a3 := h5 f hf1 hf2 p q hp hq
      have a4 := h3 o t
      unfold mxw mxs
      split
      · rename_i e1
        obtain ⟨rfl, rfl⟩ := e1
        omega
      · split
        · rename_i e1
          obtain ⟨rfl, rfl⟩ := e1
          omega
        · exact a3
theorem mok_mx1 {c : Nat → Int} (hI : Ic c) : mok c (c 1).toNat (mx1 c) :=
  rg_invn (P := fun k D => mok c k D) (c 1).toNat (fun D i hi h => mok_wire hI (by omega) h) (c 1).toNat mx0 (Nat.le_refl _) (mok_0 c)
def fok (c : Nat → Int) (k : Nat) (D : MX) : Prop := mok c (c 1).toNat D ∧ ∀ j p q, j < k → p < (c 0).toNat → q < (c 0).toNat → D p q ≤ D p j + D j q
theorem fok_step {c : Nat → Int} {k : Nat} (hk : k < (c 0).toNat) {D : MX} (h : fok c k D) : fok c (k + 1) (fwm (c 0).toNat D k) := by
  obtain ⟨⟨h1, h2, h3, h4, h5⟩, h6⟩ := h
  rw [fwm_fws _ (h2 k hk)]
  refine ⟨⟨bD_fws h1, zD_fws h1 h2, sD_fws h3, fun w u v hw hj => ?_, fun f hf1 hf2 p q hp hq => ?_⟩, fun j p q hj hp hq => ?_⟩
  · have := h4 w u v hw hj
    unfold fws
    split <;> omega
  · have a1 := h5 f hf1 hf2 p q hp hq
    have a2 := h5 f hf1 hf2 p k hp hk
    have a3 := h5 f hf1 hf2 k q hk hq
    unfold fws
    rw [if_pos ⟨hp, hq⟩]
    omega
  · unfold fws
    have hjn : j < (c 0).toNat := by omega
    rw [if_pos ⟨hp, hq⟩, if_pos ⟨hp, hjn⟩, if_pos ⟨hjn, hq⟩]
    have hkk := h2 k hk
    by_cases e : j = k
    · subst e
      have b1 := h1 p j
      have b2 := h1 j q
      omega
    · have b1 := h6 j p q (by omega) hp hq
      have b2 := h6 j k q (by omega) hk hq
      have b3 := h6 j p k (by omega) hp hk
      have b4 := h1 k j
      have b5 := h1 j k
      omega
theorem fok_fD {c : Nat → Int} (hI : Ic c) : fok c (c 0).toNat (fD c) :=
  rg_invn (P := fun k D => fok c k D) (c 0).toNat (fun _ _ hi h => fok_step hi h) (c 0).toNat (mx1 c) (Nat.le_refl _) ⟨mok_mx1 hI, fun j p q h => by omega⟩
theorem fD_b {c : Nat → Int} (hI : Ic c) (p q : Nat) : 0 ≤ fD c p q ∧ fD c p q ≤ 1000 := (fok_fD hI).1.1 p q
theorem fD_z {c : Nat → Int} (hI : Ic c) {p : Nat} (hp : p < (c 0).toNat) : fD c p p = 0 := (fok_fD hI).1.2.1 p hp
theorem fD_s {c : Nat → Int} (hI : Ic c) (p q : Nat) : fD c p q = fD c q p := (fok_fD hI).1.2.2.1 p q
theorem fD_jn {c : Nat → Int} (hI : Ic c) {w u v : Nat} (h : jn c w u v) : fD c u v ≤ 1 + c (27 + w) := (fok_fD hI).1.2.2.2.1 w u v (by have := h.1; omega) h
theorem fD_feas {c : Nat → Int} (hI : Ic c) {f : Nat → Int} (h1 : ∀ p q, p < (c 0).toNat → q < (c 0).toNat → f q - f p ≤ 1000) (h2 : ∀ w u v, jn c w u v → f v - f u ≤ 1 + c (27 + w)) {p q : Nat} (hp : p < (c 0).toNat) (hq : q < (c 0).toNat) : f q - f p ≤ fD c p q := (fok_fD hI).1.2.2.2.2 f h1 h2 p q hp hq
theorem fD_tri {c : Nat → Int} (hI : Ic c) {p q m : Nat} (hm : m < (c 0).toNat) (hp : p < (c 0).toNat) (hq : q < (c 0).toNat) : fD c p q ≤ fD c p m + fD c m q := (fok_fD hI).2 m p q hm hp hq
/-- one step back on a shortest way -/
theorem fD_pred {c : Nat → Int} (hI : Ic c) {s v : Nat} (hs : s < (c 0).toNat) (hv : v < (c 0).toNat) (hne : s ≠ v) (hlt : fD c s v < 1000) : ∃ w u, jn c w u v ∧ fD c s v = fD c s u + (1 + c (27 + w)) := by
  apply Classical.byContradiction
  intro hno
  have hno2 : ∀ w u, jn c w u v → fD c s v < fD c s u + (1 + c (27 + w)) := by
    intro w u hj
    have a1 := fD_tri hI (jn_lt hI hj).1 hs hv
    have a2 := fD_jn hI hj
    have a3 : fD c s v ≠ fD c s u + (1 + c (27 + w)) := fun e => hno ⟨w, u, hj, e⟩
    omega
  have key := fD_feas hI (f := fun x => if x = v then fD c s x + 1 else fD c s x) (p := s) (q := v) ?_ ?_ hs hv
  · have e : ¬ s = v := hne
    simp only [if_true, e, if_false] at key
    have := fD_z hI hs
    omega
  · intro p q hp hq
    have b1 := fD_b hI s p
    have b2 := fD_b hI s q
    show (if q = v then fD c s q + 1 else fD c s q) - (if p = v then fD c s p + 1 else fD c s p) ≤ 1000
    by_cases e1 : q = v
    · subst e1
      rw [if_pos rfl]
      split <;> omega
    · rw [if_neg e1]
      split <;> omega
  · intro w u x hj
    have hl := jn_lt hI hj
    have hw := Ic_w hI hj.1
    have a1 := fD_tri hI hl.1 hs hl.2
    have a2 := fD_jn hI hj
    show (if x = v then fD c s x + 1 else fD c s x) - (if u = v then fD c s u + 1 else fD c s u) ≤ 1 + c (27 + w)
    by_cases e1 : x = v
    · subst e1
      rw [if_pos rfl]
      have := hno2 w u hj
      split <;> omega
    · rw [if_neg e1]
      split <;> omega
/-- more wires, or shorter ones: nothing is farther -/
theorem fD_mono {c c2 : Nat → Int} (hI : Ic c) (hI2 : Ic c2) (h0 : c2 0 = c 0) (hw : ∀ w u v, jn c w u v → ∃ w2, jn c2 w2 u v ∧ c2 (27 + w2) ≤ c (27 + w)) {p q : Nat} (hp : p < (c 0).toNat) (hq : q < (c 0).toNat) : fD c2 p q ≤ fD c p q := by
  have key := fD_feas hI (f := fun x => fD c2 p x) ?_ ?_ hp hq
  · have : fD c2 p p = 0 := fD_z hI2 (by rw [h0]; exact hp)
    have key : fD c2 p q - fD c2 p p ≤ fD c p q := key
    omega
  · intro a b _ _
    have b1 := fD_b hI2 p a
    have b2 := fD_b hI2 p b
    show fD c2 p b - fD c2 p a ≤ 1000
    omega
  · intro w u v hj
    obtain ⟨w2, hj2, hle⟩ := hw w u v hj
    have hl := jn_lt hI2 hj2
    have a1 := fD_tri hI2 hl.1 (by rw [h0]; exact hp) hl.2
    have a2 := fD_jn hI2 hj2
    show fD c2 p v - fD c2 p u ≤ 1 + c (27 + w)
    omega
/-- FAR by the numbers of the rooms as the machine has them -/
def FD (c : Nat → Int) (x y : Int) : Int := fD c x.toNat y.toNat
