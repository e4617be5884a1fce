/-! TOOLS: weakest conditions, loops, frames, sets -/
def Wp {α : Type} (m : Option α) (Q : α → Prop) : Prop := ∃ r, m = some r ∧ Q r
theorem wp_some {α : Type} {a : α} {Q : α → Prop} (h : Q a) : Wp (some a) Q := ⟨a, rfl, h⟩
theorem wp_bind {α β : Type} {m : Option α} {f : α → Option β} {P : α → Prop} {Q : β → Prop} (h : Wp m P) (k : ∀ a, P a → Wp (f a) Q) : Wp (m.bind f) Q := by
  obtain ⟨a, rfl, ha⟩ := h
  exact k a ha
theorem wp_mono {α : Type} {m : Option α} {P Q : α → Prop} (h : Wp m P) (k : ∀ a, P a → Q a) : Wp m Q := by
  obtain ⟨a, e, ha⟩ := h
  exact ⟨a, e, k a ha⟩
theorem wp_eq {α : Type} {m m2 : Option α} {Q : α → Prop} (e : m = m2) (h : Wp m2 Q) : Wp m Q := e ▸ h
theorem wp_pos {α : Type} {p : Prop} [Decidable p] {a b : Option α} {Q : α → Prop} (hp : p) (h : Wp a Q) : Wp (if p then a else b) Q := by rwa [if_pos hp]
theorem wp_neg {α : Type} {p : Prop} [Decidable p] {a b : Option α} {Q : α → Prop} (hp : ¬ p) (h : Wp b Q) : Wp (if p then a else b) Q := by rwa [if_neg hp]
theorem wp_ite {α : Type} {p : Prop} [Decidable p] {a b : Option α} {Q : α → Prop} (h1 : p → Wp a Q) (h2 : ¬ p → Wp b Q) : Wp (if p then a else b) Q := by
  by_cases hp : p
  · exact wp_pos hp (h1 hp)
  · exact wp_neg hp (h2 hp)
theorem wp_let {α β : Type} {a : α} {f : α → Option β} {Q : β → Prop} (h : Wp (f a) Q) : Wp (zlet a f) Q := h
/-- a loop whose states are told -/
theorem up_loop {S R : Type} (F : Nat → Nat → S → Option R) (st : Nat → S) (m : Nat) (r : Option R)
    (hs : ∀ n i, i < m → F (n + 1) i (st i) = F n (i + 1) (st (i + 1))) (he : ∀ n, F (n + 1) m (st m) = r) :
    ∀ n i, i ≤ m → m - i < n → F n i (st i) = r := by
  intro n
  induction n with
  | zero => intro i _ h; omega
  | succ n ih =>
    intro i hi h
    by_cases e : i = m
    · subst e; exact he n
    · rw [hs n i (by omega)]
      exact ih (i + 1) (by omega) (by omega)
/-- a loop with an invariant; it may end early -/
theorem up_loopP {S R : Type} (F : Nat → Nat → S → Option R) (I : Nat → S → Prop) (Q : R → Prop) (m : Nat)
    (hs : ∀ n i s, i < m → I i s → (∃ s2, I (i + 1) s2 ∧ F (n + 1) i s = F n (i + 1) s2) ∨ Wp (F (n + 1) i s) Q)
    (he : ∀ n s, I m s → Wp (F (n + 1) m s) Q) :
    ∀ n i s, i ≤ m → m - i < n → I i s → Wp (F n i s) Q := by
  intro n
  induction n with
  | zero => intro i s _ h; omega
  | succ n ih =>
    intro i s hi h hI
    by_cases e : i = m
    · subst e; exact he n s hI
    · rcases hs n i s (by omega) hI with ⟨s2, h2, e2⟩ | h2
      · rw [e2]
        exact ih (i + 1) s2 (by omega) (by omega) h2
      · exact h2
/-- a loop with a measure -/
theorem dn_loopP {S R : Type} (F : Nat → S → Option R) (I : Nat → S → Prop) (Q : R → Prop)
    (hs : ∀ n j s, I j s → (∃ j2 s2, j2 < j ∧ I j2 s2 ∧ F (n + 1) s = F n s2) ∨ Wp (F (n + 1) s) Q) :
    ∀ n j s, j < n → I j s → Wp (F n s) Q := by
  intro n
  induction n with
  | zero => intro j s h; omega
  | succ n ih =>
    intro j s h hI
    rcases hs n j s hI with ⟨j2, s2, h1, h2, e2⟩ | h2
    · rw [e2]
      exact ih j2 s2 (by omega) h2
    · exact h2
/-- alike outside of some cells -/
def Eo (l : List Nat) (M N : AM) : Prop := ∀ a, a ∉ l → N a = M a
theorem Eo_refl (l : List Nat) (M : AM) : Eo l M M := fun _ _ => rfl
theorem Eo_trans {l : List Nat} {M N P : AM} (h1 : Eo l M N) (h2 : Eo l N P) : Eo l M P := fun a ha => (h2 a ha).trans (h1 a ha)
theorem Eo_sub {l l2 : List Nat} {M N : AM} (h : Eo l M N) (hs : ∀ a, a ∈ l → a ∈ l2) : Eo l2 M N := fun a ha => h a (fun hm => ha (hs a hm))
theorem Eo_upd {l : List Nat} {M N : AM} {q : Nat} (j : Nat) (x : Int) (hq : q ∈ l) (h : Eo l M N) : Eo l M (am_upd N q j x) := fun a ha => by
  rw [am_upd_cell (by rintro rfl; exact ha hq)]
  exact h a ha
theorem Eo_row {l : List Nat} {M N : AM} {q : Nat} (f : Nat → Int) (hq : q ∈ l) (h : Eo l M N) : Eo l M (am_row N q f) := fun a ha => by
  rw [am_row_ne (by rintro rfl; exact ha hq)]
  exact h a ha
/-! numbers -/
theorem tn0 : Int.toNat 0 = 0 := rfl
theorem tn1 : Int.toNat 1 = 1 := rfl
theorem tn2 : Int.toNat 2 = 2 := rfl
theorem tn3 : Int.toNat 3 = 3 := rfl
theorem tn4 : Int.toNat 4 = 4 := rfl
theorem tn5 : Int.toNat 5 = 5 := rfl
theorem tn6 : Int.toNat 6 = 6 := rfl
theorem tn8 : Int.toNat 8 = 8 := rfl
theorem tn10 : Int.toNat 10 = 10 := rfl
theorem tn24 : Int.toNat 24 = 24 := rfl
theorem tn60 : Int.toNat 60 = 60 := rfl
theorem tn64 : Int.toNat 64 = 64 := rfl
theorem tn83 : Int.toNat 83 = 83 := rfl
theorem tn84 : Int.toNat 84 = 84 := rfl
theorem tn1420 : Int.toNat 1420 = 1420 := rfl
theorem tn1422 : Int.toNat 1422 = 1422 := rfl
theorem tp7 (i : Nat) : Int.toNat (7 + (i : Int)) = 7 + i := by omega
theorem tp17 (i : Nat) : Int.toNat (17 + (i : Int)) = 17 + i := by omega
theorem tp27 (i : Nat) : Int.toNat (27 + (i : Int)) = 27 + i := by omega
theorem tp37 (i : Nat) : Int.toNat (37 + (i : Int)) = 37 + i := by omega
theorem tp47 (i : Nat) : Int.toNat (47 + (i : Int)) = 47 + i := by omega
theorem tp53 (i : Nat) : Int.toNat (53 + (i : Int)) = 53 + i := by omega
theorem tp59 (i : Nat) : Int.toNat (59 + (i : Int)) = 59 + i := by omega
theorem tp65 (i : Nat) : Int.toNat (65 + (i : Int)) = 65 + i := by omega
theorem tp71 (i : Nat) : Int.toNat (71 + (i : Int)) = 71 + i := by omega
theorem tp77 (i : Nat) : Int.toNat (77 + (i : Int)) = 77 + i := by omega
theorem tnc (i : Nat) : Int.toNat (i : Int) = i := Int.toNat_natCast i
theorem o_succ {i : Nat} (h : i < 2147483647) : o_add (i : Int) 1 = ((i + 1 : Nat) : Int) := by
  rw [o_add_eq (by omega) (by omega)]; omega
theorem o_lit {k x : Int} (h1 : -1000000000 ≤ x) (h2 : x ≤ 1000000000) (h3 : 0 ≤ k) (h4 : k ≤ 100000) : o_add k x = k + x := o_add_eq (by omega) (by omega)
abbrev rg {β : Type} (n : Nat) (f : β → Nat → β) (b : β) : β := (List.range n).foldl f b
theorem rg_zero {β : Type} (f : β → Nat → β) (b : β) : rg 0 f b = b := rfl
theorem rg_succ {β : Type} (n : Nat) (f : β → Nat → β) (b : β) : rg (n + 1) f b = f (rg n f b) n := by simp [rg, List.range_succ]
theorem rg_inv {β : Type} {f : β → Nat → β} {P : β → Prop} (hf : ∀ b i, P b → P (f b i)) : ∀ (n : Nat) (b : β), P b → P (rg n f b) := by
  intro n
  induction n with
  | zero => intro b h; exact h
  | succ n ih => intro b h; rw [rg_succ]; exact hf _ _ (ih b h)
theorem rg_invn {β : Type} {f : β → Nat → β} {P : Nat → β → Prop} (m : Nat) (hf : ∀ b i, i < m → P i b → P (i + 1) (f b i)) : ∀ (n : Nat) (b : β), n ≤ m → P 0 b → P n (rg n f b) := by
  intro n
  induction n with
  | zero => intro b _ h; exact h
  | succ n ih => intro b hn h; rw [rg_succ]; exact hf _ _ (by omega) (ih b (by omega) h)
/-! sets -/
def setB (p : Nat → Bool) : Nat → Nat
  | 0 => 0
  | n + 1 => setB p n ||| (if p n then 2 ^ n else 0)
theorem setB_lt (p : Nat → Bool) : ∀ n, setB p n < 2 ^ n
  | 0 => by simp [setB]
  | n + 1 => by
    have h := setB_lt p n
    have h2 : 2 ^ n < 2 ^ (n + 1) := Nat.pow_lt_pow_right (by omega) (by omega)
    unfold setB
    refine Nat.or_lt_two_pow (by omega) ?_
    split
    · exact h2
    · omega
theorem setB_bit (p : Nat → Bool) (i : Nat) : ∀ n, (setB p n).testBit i = (decide (i < n) && p i)
  | 0 => by simp [setB]
  | n + 1 => by
    have h := setB_bit p i n
    unfold setB
    rw [Nat.testBit_or, h]
    by_cases e : i = n
    · subst e
      cases hp : p i <;> simp [Nat.testBit_two_pow]
    · have e2 : ¬ n = i := fun h => e h.symm
      have e3 : (i < n + 1) ↔ i < n := by omega
      cases hp : p n <;> simp [Nat.testBit_two_pow, e2, e3]
theorem setB_congr {p p2 : Nat → Bool} : ∀ n, (∀ i, i < n → p i = p2 i) → setB p n = setB p2 n
  | 0, _ => rfl
  | n + 1, h => by
    unfold setB
    rw [setB_congr n (fun i hi => h i (by omega)), h n (by omega)]
theorem nat_lt_bit {b n i : Nat} (h : b < 2 ^ n) (hi : n ≤ i) : b.testBit i = false := Nat.testBit_lt_two_pow (Nat.lt_of_lt_of_le h (Nat.pow_le_pow_right (by omega) hi))
theorem setB_eq {p : Nat → Bool} {b n : Nat} (h : b < 2 ^ n) (hb : ∀ i, i < n → b.testBit i = p i) : b = setB p n := by
  apply Nat.eq_of_testBit_eq
  intro i
  rw [setB_bit]
  by_cases hi : i < n
  · simp [hi, hb i hi]
  · have h9 := nat_lt_bit h (i := i) (by omega)
    simp [hi, h9]
theorem setB_le {n m : Nat} (p : Nat → Bool) (h : n ≤ m) : setB p n < 2 ^ m := Nat.lt_of_lt_of_le (setB_lt p n) (Nat.pow_le_pow_right (by omega) h)
theorem pow31 {n : Nat} (h : n ≤ 30) : 2 ^ n < 2147483648 := Nat.lt_of_le_of_lt (Nat.pow_le_pow_right (by omega) h) (by decide)
theorem o_or_set1 {p : Nat → Bool} {n : Nat} (h : n ≤ 30) (hp : p n = true) : o_or (setB p n : Int) (o_shl 1 (n : Int)) = (setB p (n + 1) : Int) := by
  have h1 := setB_lt p n
  have h2 := pow31 h
  rw [o_shl_one' (by omega), o_or_nat (by omega) h2]
  simp [setB, hp]
theorem o_or_set0 {p : Nat → Bool} {n : Nat} (h : n ≤ 30) (hp : p n = false) : o_or (setB p n : Int) 0 = (setB p (n + 1) : Int) := by
  have h1 := setB_lt p n
  have h2 := pow31 h
  have e : o_or (setB p n : Int) ((0 : Nat) : Int) = ((setB p n ||| 0 : Nat) : Int) := o_or_nat (by omega) (by omega)
  have e2 : ((0 : Nat) : Int) = 0 := rfl
  rw [e2] at e
  rw [e]
  simp [setB, hp]
theorem set_skip {p : Nat → Bool} {n : Nat} (hp : p n = false) : setB p n = setB p (n + 1) := by simp [setB, hp]
/-- how many -/
def cntB (p : Nat → Bool) : Nat → Nat
  | 0 => 0
  | n + 1 => cntB p n + (if p n then 1 else 0)
theorem cntB_le (p : Nat → Bool) : ∀ n, cntB p n ≤ n
  | 0 => Nat.le_refl 0
  | n + 1 => by
    have h := cntB_le p n
    unfold cntB
    split <;> omega
theorem cntB_congr {p p2 : Nat → Bool} : ∀ n, (∀ i, i < n → p i = p2 i) → cntB p n = cntB p2 n
  | 0, _ => rfl
  | n + 1, h => by
    unfold cntB
    rw [cntB_congr n (fun i hi => h i (by omega)), h n (by omega)]
/-- bit w of a class's set against the model's row -/
theorem bits_at {B : Int} {n : Nat} {f : Nat → Int} (h : bits B n f) (hn : n ≤ 10) {w : Nat} (hw : w < n) : (o_and (o_shr B (w : Int)) 1 = 0) ↔ ¬ f w = 1 := by
  obtain ⟨b, rfl, h1, h2⟩ := h
  have hb : b < 1024 := Nat.lt_of_lt_of_le h1 (Nat.pow_le_pow_right (n := 2) (by omega) hn)
  rw [o_bit hb (by omega), ← h2 w hw]
  cases b.testBit w <;> simp
theorem bits_set {B : Int} {n : Nat} {f : Nat → Int} (h : bits B n f) : B = (setB (fun w => decide (f w = 1)) n : Nat) := by
  obtain ⟨b, rfl, h1, h2⟩ := h
  congr 1
  refine setB_eq h1 (fun i hi => ?_)
  have := h2 i hi
  cases hb : b.testBit i
  · have : ¬ f i = 1 := fun e => by rw [this.mpr e] at hb; cases hb
    simp [this]
  · have := this.mp hb
    simp [this]
theorem up_loop0 {S R : Type} (F : Nat → Nat → S → Option R) (st : Nat → S) (m : Nat) (r : Option R) (s0 : S) (h0 : st 0 = s0)
    (hs : ∀ n i, i < m → F (n + 1) i (st i) = F n (i + 1) (st (i + 1))) (he : ∀ n, F (n + 1) m (st m) = r) (hm : m < 1000000) : F zB 0 s0 = r := by
  rw [← h0]
  exact up_loop F st m r hs he zB 0 (Nat.zero_le _) (by unfold zB; omega)
theorem up_loopP0 {S R : Type} (F : Nat → Nat → S → Option R) (I : Nat → S → Prop) (Q : R → Prop) (m : Nat) (s0 : S) (h0 : I 0 s0)
    (hs : ∀ n i s, i < m → I i s → (∃ s2, I (i + 1) s2 ∧ F (n + 1) i s = F n (i + 1) s2) ∨ Wp (F (n + 1) i s) Q)
    (he : ∀ n s, I m s → Wp (F (n + 1) m s) Q) (hm : m < 1000000) : Wp (F zB 0 s0) Q :=
  up_loopP F I Q m hs he zB 0 s0 (Nat.zero_le _) (by unfold zB; omega) h0
theorem dn_loopP0 {S R : Type} (F : Nat → S → Option R) (I : Nat → S → Prop) (Q : R → Prop) (j : Nat) (s0 : S) (h0 : I j s0)
    (hs : ∀ n j s, I j s → (∃ j2 s2, j2 < j ∧ I j2 s2 ∧ F (n + 1) s = F n s2) ∨ Wp (F (n + 1) s) Q) (hj : j < 1000000) : Wp (F zB s0) Q :=
  dn_loopP F I Q hs zB j s0 (by unfold zB; omega) h0
theorem zB_succ : zB = 1999999 + 1 := rfl
